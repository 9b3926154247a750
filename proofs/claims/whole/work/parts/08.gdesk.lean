abbrev m_Dig_with : cd_M := (⟨"CertificateDesk$Digest", "with", "(II)I"⟩, prog_5_method_2_code, 2, some .int, 1, 20)
theorem d_Dig_with_0 : decode prog_5_method_2_code 0 = .ok (.ldc2_w 9, 3) := by decide +kernel
theorem kw_1_224 : (Jvm.Cond.constantLong "CertificateDesk$Digest" (9 : Nat) (263 : Int64)) ∈ cd_tbl := tb_1 (List.mem_of_getElem? (i := 224) (by decide +kernel)) (by decide)
theorem d_Dig_with_3 : decode prog_5_method_2_code 3 = .ok (.iload_n 0, 1) := by decide +kernel
theorem d_Dig_with_4 : decode prog_5_method_2_code 4 = .ok (.i2l, 1) := by decide +kernel
theorem d_Dig_with_5 : decode prog_5_method_2_code 5 = .ok (.lmul, 1) := by decide +kernel
theorem d_Dig_with_6 : decode prog_5_method_2_code 6 = .ok (.iload_n 1, 1) := by decide +kernel
theorem d_Dig_with_7 : decode prog_5_method_2_code 7 = .ok (.i2l, 1) := by decide +kernel
theorem d_Dig_with_8 : decode prog_5_method_2_code 8 = .ok (.ladd, 1) := by decide +kernel
theorem d_Dig_with_9 : decode prog_5_method_2_code 9 = .ok (.ldc2_w 11, 3) := by decide +kernel
theorem kw_1_225 : (Jvm.Cond.constantLong "CertificateDesk$Digest" (11 : Nat) (2147483647 : Int64)) ∈ cd_tbl := tb_1 (List.mem_of_getElem? (i := 225) (by decide +kernel)) (by decide)
theorem d_Dig_with_12 : decode prog_5_method_2_code 12 = .ok (.lrem, 1) := by decide +kernel
theorem d_Dig_with_13 : decode prog_5_method_2_code 13 = .ok (.l2i, 1) := by decide +kernel
theorem d_Dig_with_14 : decode prog_5_method_2_code 14 = .ok (.ireturn, 1) := by decide +kernel
theorem g_Dig_with {X : cd_E} {kc ks : Nat} {h : cd_H} {Q : Option Value → cd_H → Prop} {p1 : Int32} {p2 : Int32} (F : cc_ok h) (H : Q (some (.int ((((263 * p1.toInt64) + p2.toInt64) - ((263 * p1.toInt64) + p2.toInt64) / 2147483647 * 2147483647).toInt32))) h) : cd_W X m_Dig_with kc ks 0 [some (.int p1), some (.int p2)] [] h Q := by
  refine cd_ldc2 (v := 263) d_Dig_with_0 kw_1_224 ?_
  refine cd_iload_n (i := 0) d_Dig_with_3 rfl rfl ?_
  refine cd_i2l d_Dig_with_4 ?_
  refine cd_lmul d_Dig_with_5 ?_
  refine cd_iload_n (i := 1) d_Dig_with_6 rfl rfl ?_
  refine cd_i2l d_Dig_with_7 ?_
  refine cd_ladd d_Dig_with_8 ?_
  refine cd_ldc2 (v := 2147483647) d_Dig_with_9 kw_1_225 ?_
  refine cd_lrem d_Dig_with_12 (by decide) ?_
  refine cd_l2i d_Dig_with_13 ?_
  exact cd_iret d_Dig_with_14 rfl rfl H

abbrev m_Dig_withText : cd_M := (⟨"CertificateDesk$Digest", "withText", "(ILjava/lang/String;)I"⟩, prog_5_method_3_code, 4, some .int, 27, 591)
theorem d_Dig_withText_0 : decode prog_5_method_3_code 0 = .ok (.iload_n 0, 1) := by decide +kernel
theorem d_Dig_withText_1 : decode prog_5_method_3_code 1 = .ok (.istore_n 2, 1) := by decide +kernel
theorem d_Dig_withText_2 : decode prog_5_method_3_code 2 = .ok (.iconst 0, 1) := by decide +kernel
theorem d_Dig_withText_3 : decode prog_5_method_3_code 3 = .ok (.istore_n 3, 1) := by decide +kernel
theorem g_Dig_withText {X : cd_E} {kc ks : Nat} {h : cd_H} {Q : Option Value → cd_H → Prop} {p1 : Int32} {p2 : Nat} (F : cc_ok h) (H : cd_W X m_Dig_withText kc ks 4 [none, some (.ref p2), some (.int p1), some (.int 0)] [] h Q) : cd_W X m_Dig_withText kc ks 0 [some (.int p1), some (.ref p2), none, none] [] h Q := by
  refine cd_iload_n (i := 0) d_Dig_withText_0 rfl rfl ?_
  refine cd_istore_n (i := 2) d_Dig_withText_1 rfl (by decide) ?_
  show cd_W X m_Dig_withText kc ks 2 [some (.int p1), some (.ref p2), some (.int p1), none] [] h Q
  refine cd_iconst (v := 0) d_Dig_withText_2 (by decide) ?_
  refine cd_istore_n (i := 3) d_Dig_withText_3 rfl (by decide) ?_
  show cd_W X m_Dig_withText kc ks 4 [some (.int p1), some (.ref p2), some (.int p1), some (.int 0)] [] h Q
  refine cd_W.drop (i := 0) ?_
  exact H

theorem d_Dig_withText_4 : decode prog_5_method_3_code 4 = .ok (.iload_n 3, 1) := by decide +kernel
theorem d_Dig_withText_5 : decode prog_5_method_3_code 5 = .ok (.aload_n 1, 1) := by decide +kernel
theorem d_Dig_withText_6 : decode prog_5_method_3_code 6 = .ok (.invokevirtual 13, 3) := by decide +kernel
abbrev m_Str_length : cd_M := (⟨"java/lang/String", "length", "()I"⟩, prog_21_method_54_code, 1, some .int, 2, 40)
theorem kw_4_180 : (Jvm.Cond.methodLink "CertificateDesk$Digest" (13 : Nat) ({ cls := "java/lang/String", name := "length", desc := "()I" } : Jvm.MethodName)) ∈ cd_tbl := tb_4 (List.mem_of_getElem? (i := 180) (by decide +kernel)) (by decide)
theorem kw_2_78 : (Jvm.Cond.code ({ cls := "java/lang/String", name := "length", desc := "()I" } : Jvm.MethodName) prog_21_method_54_code (1 : Nat) (Option.some Jvm.ClassFile.FieldType.int)) ∈ cd_tbl := tb_2 (List.mem_of_getElem? (i := 78) (by decide +kernel)) (by decide)
theorem kw_1_14 : (Jvm.Cond.initialized "java/lang/String") ∈ cd_tbl := tb_1 (List.mem_of_getElem? (i := 14) (by decide +kernel)) (by decide)
theorem kw_2_76 : (Jvm.Cond.instanceMethod ({ cls := "java/lang/String", name := "length", desc := "()I" } : Jvm.MethodName)) ∈ cd_tbl := tb_2 (List.mem_of_getElem? (i := 76) (by decide +kernel)) (by decide)
theorem kw_2_77 : (Jvm.Cond.selects "java/lang/String" ({ cls := "java/lang/String", name := "length", desc := "()I" } : Jvm.MethodName) ({ cls := "java/lang/String", name := "length", desc := "()I" } : Jvm.MethodName)) ∈ cd_tbl := tb_2 (List.mem_of_getElem? (i := 77) (by decide +kernel)) (by decide)
theorem ca_Dig_withText_13 {X : cd_E} : cd_CV X m_Dig_withText m_Str_length 13 0 13 := ⟨⟨by decide, kw_2_78, kw_1_14, ⟨by decide, by decide, by decide +kernel⟩, by decide, by decide⟩, ⟨_, rfl, rfl⟩, kw_2_76, kw_2_77, (Or.inl kw_4_180)⟩
theorem d_Dig_withText_9 : decode prog_5_method_3_code 9 = .ok (.if_icmp .ge 19, 3) := by decide +kernel
theorem d_Dig_withText_28 : decode prog_5_method_3_code 28 = .ok (.iload_n 2, 1) := by decide +kernel
theorem d_Dig_withText_29 : decode prog_5_method_3_code 29 = .ok (.ireturn, 1) := by decide +kernel
theorem d_Dig_withText_12 : decode prog_5_method_3_code 12 = .ok (.iload_n 2, 1) := by decide +kernel
theorem d_Dig_withText_13 : decode prog_5_method_3_code 13 = .ok (.aload_n 1, 1) := by decide +kernel
theorem d_Dig_withText_14 : decode prog_5_method_3_code 14 = .ok (.iload_n 3, 1) := by decide +kernel
theorem d_Dig_withText_15 : decode prog_5_method_3_code 15 = .ok (.invokevirtual 19, 3) := by decide +kernel
abbrev m_Str_charAt : cd_M := (⟨"java/lang/String", "charAt", "(I)C"⟩, prog_21_method_56_code, 2, some .char, 26, 570)
theorem kw_4_181 : (Jvm.Cond.methodLink "CertificateDesk$Digest" (19 : Nat) ({ cls := "java/lang/String", name := "charAt", desc := "(I)C" } : Jvm.MethodName)) ∈ cd_tbl := tb_4 (List.mem_of_getElem? (i := 181) (by decide +kernel)) (by decide)
theorem kw_2_88 : (Jvm.Cond.code ({ cls := "java/lang/String", name := "charAt", desc := "(I)C" } : Jvm.MethodName) prog_21_method_56_code (2 : Nat) (Option.some Jvm.ClassFile.FieldType.char)) ∈ cd_tbl := tb_2 (List.mem_of_getElem? (i := 88) (by decide +kernel)) (by decide)
theorem kw_2_86 : (Jvm.Cond.instanceMethod ({ cls := "java/lang/String", name := "charAt", desc := "(I)C" } : Jvm.MethodName)) ∈ cd_tbl := tb_2 (List.mem_of_getElem? (i := 86) (by decide +kernel)) (by decide)
theorem kw_2_87 : (Jvm.Cond.selects "java/lang/String" ({ cls := "java/lang/String", name := "charAt", desc := "(I)C" } : Jvm.MethodName) ({ cls := "java/lang/String", name := "charAt", desc := "(I)C" } : Jvm.MethodName)) ∈ cd_tbl := tb_2 (List.mem_of_getElem? (i := 87) (by decide +kernel)) (by decide)
theorem ca_Dig_withText_19 {X : cd_E} : cd_CV X m_Dig_withText m_Str_charAt 19 1 13 := ⟨⟨by decide, kw_2_88, kw_1_14, ⟨by decide, by decide, by decide +kernel⟩, by decide, by decide⟩, ⟨_, rfl, rfl⟩, kw_2_86, kw_2_87, (Or.inl kw_4_181)⟩
theorem d_Dig_withText_18 : decode prog_5_method_3_code 18 = .ok (.invokestatic 23, 3) := by decide +kernel
theorem kw_1_230 : (Jvm.Cond.methodLink "CertificateDesk$Digest" (23 : Nat) ({ cls := "CertificateDesk$Digest", name := "with", desc := "(II)I" } : Jvm.MethodName)) ∈ cd_tbl := tb_1 (List.mem_of_getElem? (i := 230) (by decide +kernel)) (by decide)
theorem kw_1_223 : (Jvm.Cond.code ({ cls := "CertificateDesk$Digest", name := "with", desc := "(II)I" } : Jvm.MethodName) prog_5_method_2_code (2 : Nat) (Option.some Jvm.ClassFile.FieldType.int)) ∈ cd_tbl := tb_1 (List.mem_of_getElem? (i := 223) (by decide +kernel)) (by decide)
theorem kw_1_11 : (Jvm.Cond.initialized "CertificateDesk$Digest") ∈ cd_tbl := tb_1 (List.mem_of_getElem? (i := 11) (by decide +kernel)) (by decide)
theorem kw_1_222 : (Jvm.Cond.static ({ cls := "CertificateDesk$Digest", name := "with", desc := "(II)I" } : Jvm.MethodName)) ∈ cd_tbl := tb_1 (List.mem_of_getElem? (i := 222) (by decide +kernel)) (by decide)
theorem ca_Dig_withText_23 {X : cd_E} : cd_CS X m_Dig_withText m_Dig_with 23 2 := ⟨⟨by decide, kw_1_223, kw_1_11, ⟨by decide, by decide, by decide +kernel⟩, by decide, by decide⟩, kw_1_222, (Or.inl kw_1_230)⟩
theorem d_Dig_withText_21 : decode prog_5_method_3_code 21 = .ok (.istore_n 2, 1) := by decide +kernel
theorem d_Dig_withText_22 : decode prog_5_method_3_code 22 = .ok (.iinc 3 1, 3) := by decide +kernel
theorem d_Dig_withText_25 : decode prog_5_method_3_code 25 = .ok (.goto (-21), 3) := by decide +kernel
theorem g_Dig_withText_4 {X : cd_E} {kc ks : Nat} {h : cd_H} {Q : Option Value → cd_H → Prop} {v1 : Nat} {v2 : Int32} {v3 : Int32} (F : cc_ok h) (H : (cd_k h v1 = some (.inl 13)) ∧ (cd_W X m_Str_length 0 0 0 [some (.ref v1)] [] h (fun r2 h3 => ∃ x4 : Int32, r2 = some (.int x4) ∧ ((cc_ok h3) ∧ ((((x4 ≤ v3) → (Q (some (.int v2)) h3)) ∧ ((¬ x4 ≤ v3) → ((cd_k h3 v1 = some (.inl 13)) ∧ (cd_W X m_Str_charAt 0 0 0 [some (.ref v1), some (.int v3)] [] h3 (fun r8 h9 => ∃ x10 : Int32, r8 = some (.int x10) ∧ ((cc_ok h9) ∧ (cd_W X m_Dig_with 0 0 0 [some (.int v2), some (.int x10)] [] h9 (fun r12 h13 => ∃ x14 : Int32, r12 = some (.int x14) ∧ ((cc_ok h13) ∧ (cd_W X m_Dig_withText kc ks 4 [none, some (.ref v1), some (.int x14), some (.int (v3 + 1))] [] h13 Q))))))))))))))) : cd_W X m_Dig_withText kc ks 4 [none, some (.ref v1), some (.int v2), some (.int v3)] [] h Q := by
  refine cd_iload_n (i := 3) d_Dig_withText_4 rfl rfl ?_
  refine cd_aload_n (i := 1) (v := .ref v1) d_Dig_withText_5 rfl rfl (cd_isr_ref _) ?_
  obtain ⟨c1, H⟩ := H
  refine cd_callV (kc := kc) (ks := ks) (kc' := 0) (ks' := 0) (As := []) (S := [.int v3]) d_Dig_withText_6 ca_Dig_withText_13 c1 rfl (Nat.le_of_ble_eq_true rfl) (Nat.le_of_ble_eq_true rfl) ?_
  refine cd_W.mono (fun r2 h3 H => ?_) H
  obtain ⟨x4, rfl, H⟩ := H
  obtain ⟨F5, H⟩ := H
  show cd_W X m_Dig_withText kc ks 9 [none, some (.ref v1), some (.int v2), some (.int v3)] [.int x4, .int v3] h3 Q
  refine cd_icmp_ge (tgt := 28) d_Dig_withText_9 (by decide) (fun t6 => ?_) (fun t6 => ?_)
  · replace H := H.1 t6
    refine cd_iload_n (i := 2) d_Dig_withText_28 rfl rfl ?_
    exact cd_iret d_Dig_withText_29 rfl rfl H
  · replace H := H.2 t6
    refine cd_iload_n (i := 2) d_Dig_withText_12 rfl rfl ?_
    refine cd_aload_n (i := 1) (v := .ref v1) d_Dig_withText_13 rfl rfl (cd_isr_ref _) ?_
    refine cd_iload_n (i := 3) d_Dig_withText_14 rfl rfl ?_
    obtain ⟨c7, H⟩ := H
    refine cd_callV (kc := kc) (ks := ks) (kc' := 0) (ks' := 0) (As := [.int v3]) (S := [.int v2]) d_Dig_withText_15 ca_Dig_withText_19 c7 rfl (Nat.le_of_ble_eq_true rfl) (Nat.le_of_ble_eq_true rfl) ?_
    refine cd_W.mono (fun r8 h9 H => ?_) H
    obtain ⟨x10, rfl, H⟩ := H
    obtain ⟨F11, H⟩ := H
    show cd_W X m_Dig_withText kc ks 18 [none, some (.ref v1), some (.int v2), some (.int v3)] [.int x10, .int v2] h9 Q
    refine cd_callS (kc := kc) (ks := ks) (kc' := 0) (ks' := 0) (As := [.int v2, .int x10]) (S := []) d_Dig_withText_18 ca_Dig_withText_23 rfl (Nat.le_of_ble_eq_true rfl) (Nat.le_of_ble_eq_true rfl) ?_
    refine cd_W.mono (fun r12 h13 H => ?_) H
    obtain ⟨x14, rfl, H⟩ := H
    obtain ⟨F15, H⟩ := H
    show cd_W X m_Dig_withText kc ks 21 [none, some (.ref v1), some (.int v2), some (.int v3)] [.int x14] h13 Q
    refine cd_istore_n (i := 2) d_Dig_withText_21 rfl (by decide) ?_
    show cd_W X m_Dig_withText kc ks 22 [none, some (.ref v1), some (.int x14), some (.int v3)] [] h13 Q
    refine cd_iinc (i := 3) (v := (v3 + 1)) d_Dig_withText_22 rfl (cd_inc1 _) (by decide) ?_
    show cd_W X m_Dig_withText kc ks 25 [none, some (.ref v1), some (.int x14), some (.int (v3 + 1))] [] h13 Q
    refine cd_goto (tgt := 4) d_Dig_withText_25 (by decide) ?_
    exact H

abbrev m_Dig_withNumber : cd_M := (⟨"CertificateDesk$Digest", "withNumber", "(II)I"⟩, prog_5_method_4_code, 8, some .int, 2, 41)
theorem d_Dig_withNumber_0 : decode prog_5_method_4_code 0 = .ok (.iload_n 1, 1) := by decide +kernel
theorem d_Dig_withNumber_1 : decode prog_5_method_4_code 1 = .ok (.ifCond .ge 12, 3) := by decide +kernel
theorem d_Dig_withNumber_13 : decode prog_5_method_4_code 13 = .ok (.iload_n 0, 1) := by decide +kernel
theorem d_Dig_withNumber_14 : decode prog_5_method_4_code 14 = .ok (.istore_n 2, 1) := by decide +kernel
theorem d_Dig_withNumber_15 : decode prog_5_method_4_code 15 = .ok (.iload_n 1, 1) := by decide +kernel
theorem d_Dig_withNumber_16 : decode prog_5_method_4_code 16 = .ok (.ifCond .ge 9, 3) := by decide +kernel
theorem d_Dig_withNumber_25 : decode prog_5_method_4_code 25 = .ok (.iload_n 1, 1) := by decide +kernel
theorem d_Dig_withNumber_26 : decode prog_5_method_4_code 26 = .ok (.i2l, 1) := by decide +kernel
theorem d_Dig_withNumber_27 : decode prog_5_method_4_code 27 = .ok (.lstore_n 3, 1) := by decide +kernel
theorem d_Dig_withNumber_28 : decode prog_5_method_4_code 28 = .ok (.lconst 1, 1) := by decide +kernel
theorem d_Dig_withNumber_29 : decode prog_5_method_4_code 29 = .ok (.lstore 5, 2) := by decide +kernel
theorem d_Dig_withNumber_31 : decode prog_5_method_4_code 31 = .ok (.iconst 1, 1) := by decide +kernel
theorem d_Dig_withNumber_32 : decode prog_5_method_4_code 32 = .ok (.istore 7, 2) := by decide +kernel
theorem d_Dig_withNumber_4 : decode prog_5_method_4_code 4 = .ok (.iload_n 0, 1) := by decide +kernel
theorem d_Dig_withNumber_5 : decode prog_5_method_4_code 5 = .ok (.bipush 45, 2) := by decide +kernel
theorem d_Dig_withNumber_7 : decode prog_5_method_4_code 7 = .ok (.invokestatic 23, 3) := by decide +kernel
theorem ca_Dig_withNumber_23 {X : cd_E} : cd_CS X m_Dig_withNumber m_Dig_with 23 2 := ⟨⟨by decide, kw_1_223, kw_1_11, ⟨by decide, by decide, by decide +kernel⟩, by decide, by decide⟩, kw_1_222, (Or.inl kw_1_230)⟩
theorem d_Dig_withNumber_10 : decode prog_5_method_4_code 10 = .ok (.goto 4, 3) := by decide +kernel
theorem d_Dig_withNumber_19 : decode prog_5_method_4_code 19 = .ok (.iload_n 1, 1) := by decide +kernel
theorem d_Dig_withNumber_20 : decode prog_5_method_4_code 20 = .ok (.i2l, 1) := by decide +kernel
theorem d_Dig_withNumber_21 : decode prog_5_method_4_code 21 = .ok (.lneg, 1) := by decide +kernel
theorem d_Dig_withNumber_22 : decode prog_5_method_4_code 22 = .ok (.goto 5, 3) := by decide +kernel
theorem g_Dig_withNumber {X : cd_E} {kc ks : Nat} {h : cd_H} {Q : Option Value → cd_H → Prop} {p1 : Int32} {p2 : Int32} (F : cc_ok h) (H : (((0 ≤ p2) → (cd_W X m_Dig_withNumber kc ks 34 [none, none, some (.int p1), some (.long p2.toInt64), none, some (.long 1), none, some (.int 1)] [] h Q)) ∧ ((¬ 0 ≤ p2) → (cd_W X m_Dig_with 0 0 0 [some (.int p1), some (.int 45)] [] h (fun r2 h3 => ∃ x4 : Int32, r2 = some (.int x4) ∧ ((cc_ok h3) ∧ (cd_W X m_Dig_withNumber kc ks 34 [none, none, some (.int x4), some (.long (-p2.toInt64)), none, some (.long 1), none, some (.int 1)] [] h3 Q))))))) : cd_W X m_Dig_withNumber kc ks 0 [some (.int p1), some (.int p2), none, none, none, none, none, none] [] h Q := by
  refine cd_iload_n (i := 1) d_Dig_withNumber_0 rfl rfl ?_
  refine cd_if_ge (tgt := 13) d_Dig_withNumber_1 (by decide) (fun t1 => ?_) (fun t1 => ?_)
  · replace H := H.1 t1
    refine cd_iload_n (i := 0) d_Dig_withNumber_13 rfl rfl ?_
    refine cd_istore_n (i := 2) d_Dig_withNumber_14 rfl (by decide) ?_
    show cd_W X m_Dig_withNumber kc ks 15 [some (.int p1), some (.int p2), some (.int p1), none, none, none, none, none] [] h Q
    refine cd_iload_n (i := 1) d_Dig_withNumber_15 rfl rfl ?_
    refine cd_if_ge (tgt := 25) d_Dig_withNumber_16 (by decide) (fun _ => ?_) (fun hc => absurd t1 hc)
    refine cd_iload_n (i := 1) d_Dig_withNumber_25 rfl rfl ?_
    refine cd_i2l d_Dig_withNumber_26 ?_
    refine cd_lstore_n (i := 3) d_Dig_withNumber_27 rfl (by decide) ?_
    show cd_W X m_Dig_withNumber kc ks 28 [some (.int p1), some (.int p2), some (.int p1), some (.long p2.toInt64), none, none, none, none] [] h Q
    refine cd_lconst (v := 1) d_Dig_withNumber_28 (by decide) ?_
    refine cd_lstore (i := 5) d_Dig_withNumber_29 (by decide) ?_
    show cd_W X m_Dig_withNumber kc ks 31 [some (.int p1), some (.int p2), some (.int p1), some (.long p2.toInt64), none, some (.long 1), none, none] [] h Q
    refine cd_iconst (v := 1) d_Dig_withNumber_31 (by decide) ?_
    refine cd_istore (i := 7) d_Dig_withNumber_32 (by decide) ?_
    show cd_W X m_Dig_withNumber kc ks 34 [some (.int p1), some (.int p2), some (.int p1), some (.long p2.toInt64), none, some (.long 1), none, some (.int 1)] [] h Q
    refine cd_W.drop (i := 0) ?_
    refine cd_W.drop (i := 1) ?_
    exact H
  · replace H := H.2 t1
    refine cd_iload_n (i := 0) d_Dig_withNumber_4 rfl rfl ?_
    refine cd_bipush (v := 45) d_Dig_withNumber_5 (by decide) ?_
    refine cd_callS (kc := kc) (ks := ks) (kc' := 0) (ks' := 0) (As := [.int p1, .int 45]) (S := []) d_Dig_withNumber_7 ca_Dig_withNumber_23 rfl (Nat.le_of_ble_eq_true rfl) (Nat.le_of_ble_eq_true rfl) ?_
    refine cd_W.mono (fun r2 h3 H => ?_) H
    obtain ⟨x4, rfl, H⟩ := H
    obtain ⟨F5, H⟩ := H
    show cd_W X m_Dig_withNumber kc ks 10 [some (.int p1), some (.int p2), none, none, none, none, none, none] [.int x4] h3 Q
    refine cd_goto (tgt := 14) d_Dig_withNumber_10 (by decide) ?_
    refine cd_istore_n (i := 2) d_Dig_withNumber_14 rfl (by decide) ?_
    show cd_W X m_Dig_withNumber kc ks 15 [some (.int p1), some (.int p2), some (.int x4), none, none, none, none, none] [] h3 Q
    refine cd_iload_n (i := 1) d_Dig_withNumber_15 rfl rfl ?_
    refine cd_if_ge (tgt := 25) d_Dig_withNumber_16 (by decide) (fun hc => absurd hc t1) (fun _ => ?_)
    refine cd_iload_n (i := 1) d_Dig_withNumber_19 rfl rfl ?_
    refine cd_i2l d_Dig_withNumber_20 ?_
    refine cd_lneg d_Dig_withNumber_21 ?_
    refine cd_goto (tgt := 27) d_Dig_withNumber_22 (by decide) ?_
    refine cd_lstore_n (i := 3) d_Dig_withNumber_27 rfl (by decide) ?_
    show cd_W X m_Dig_withNumber kc ks 28 [some (.int p1), some (.int p2), some (.int x4), some (.long (-p2.toInt64)), none, none, none, none] [] h3 Q
    refine cd_lconst (v := 1) d_Dig_withNumber_28 (by decide) ?_
    refine cd_lstore (i := 5) d_Dig_withNumber_29 (by decide) ?_
    show cd_W X m_Dig_withNumber kc ks 31 [some (.int p1), some (.int p2), some (.int x4), some (.long (-p2.toInt64)), none, some (.long 1), none, none] [] h3 Q
    refine cd_iconst (v := 1) d_Dig_withNumber_31 (by decide) ?_
    refine cd_istore (i := 7) d_Dig_withNumber_32 (by decide) ?_
    show cd_W X m_Dig_withNumber kc ks 34 [some (.int p1), some (.int p2), some (.int x4), some (.long (-p2.toInt64)), none, some (.long 1), none, some (.int 1)] [] h3 Q
    refine cd_W.drop (i := 0) ?_
    refine cd_W.drop (i := 1) ?_
    exact H

theorem d_Dig_withNumber_34 : decode prog_5_method_4_code 34 = .ok (.iload 7, 2) := by decide +kernel
theorem d_Dig_withNumber_36 : decode prog_5_method_4_code 36 = .ok (.bipush 10, 2) := by decide +kernel
theorem d_Dig_withNumber_38 : decode prog_5_method_4_code 38 = .ok (.if_icmp .ge 28, 3) := by decide +kernel
theorem d_Dig_withNumber_66 : decode prog_5_method_4_code 66 = .ok (.iconst 0, 1) := by decide +kernel
theorem d_Dig_withNumber_67 : decode prog_5_method_4_code 67 = .ok (.istore 7, 2) := by decide +kernel
theorem d_Dig_withNumber_41 : decode prog_5_method_4_code 41 = .ok (.lload 5, 2) := by decide +kernel
theorem d_Dig_withNumber_43 : decode prog_5_method_4_code 43 = .ok (.ldc2_w 27, 3) := by decide +kernel
theorem kw_1_231 : (Jvm.Cond.constantLong "CertificateDesk$Digest" (27 : Nat) (10 : Int64)) ∈ cd_tbl := tb_1 (List.mem_of_getElem? (i := 231) (by decide +kernel)) (by decide)
theorem d_Dig_withNumber_46 : decode prog_5_method_4_code 46 = .ok (.lmul, 1) := by decide +kernel
theorem d_Dig_withNumber_47 : decode prog_5_method_4_code 47 = .ok (.lload_n 3, 1) := by decide +kernel
theorem d_Dig_withNumber_48 : decode prog_5_method_4_code 48 = .ok (.lcmp, 1) := by decide +kernel
theorem d_Dig_withNumber_49 : decode prog_5_method_4_code 49 = .ok (.ifCond .gt 17, 3) := by decide +kernel
theorem d_Dig_withNumber_52 : decode prog_5_method_4_code 52 = .ok (.lload 5, 2) := by decide +kernel
theorem d_Dig_withNumber_54 : decode prog_5_method_4_code 54 = .ok (.ldc2_w 27, 3) := by decide +kernel
theorem d_Dig_withNumber_57 : decode prog_5_method_4_code 57 = .ok (.lmul, 1) := by decide +kernel
theorem d_Dig_withNumber_58 : decode prog_5_method_4_code 58 = .ok (.lstore 5, 2) := by decide +kernel
theorem d_Dig_withNumber_60 : decode prog_5_method_4_code 60 = .ok (.iinc 7 1, 3) := by decide +kernel
theorem d_Dig_withNumber_63 : decode prog_5_method_4_code 63 = .ok (.goto (-29), 3) := by decide +kernel
theorem g_Dig_withNumber_34 {X : cd_E} {kc ks : Nat} {h : cd_H} {Q : Option Value → cd_H → Prop} {v2 : Int32} {v3 : Int64} {v5 : Int64} {v7 : Int32} (F : cc_ok h) (H : (((10 ≤ v7) → (cd_W X m_Dig_withNumber kc ks 69 [none, none, some (.int v2), some (.long v3), none, some (.long v5), none, some (.int 0)] [] h Q)) ∧ ((¬ 10 ≤ v7) → ((((0 < (lg_cmp (v5 * 10) v3)) → (cd_W X m_Dig_withNumber kc ks 69 [none, none, some (.int v2), some (.long v3), none, some (.long v5), none, some (.int 0)] [] h Q)) ∧ ((¬ 0 < (lg_cmp (v5 * 10) v3)) → (cd_W X m_Dig_withNumber kc ks 34 [none, none, some (.int v2), some (.long v3), none, some (.long (v5 * 10)), none, some (.int (v7 + 1))] [] h Q))))))) : cd_W X m_Dig_withNumber kc ks 34 [none, none, some (.int v2), some (.long v3), none, some (.long v5), none, some (.int v7)] [] h Q := by
  refine cd_iload (i := 7) d_Dig_withNumber_34 rfl ?_
  refine cd_bipush (v := 10) d_Dig_withNumber_36 (by decide) ?_
  refine cd_icmp_ge (tgt := 66) d_Dig_withNumber_38 (by decide) (fun t1 => ?_) (fun t1 => ?_)
  · replace H := H.1 t1
    refine cd_iconst (v := 0) d_Dig_withNumber_66 (by decide) ?_
    refine cd_istore (i := 7) d_Dig_withNumber_67 (by decide) ?_
    show cd_W X m_Dig_withNumber kc ks 69 [none, none, some (.int v2), some (.long v3), none, some (.long v5), none, some (.int 0)] [] h Q
    exact H
  · replace H := H.2 t1
    refine cd_lload (i := 5) d_Dig_withNumber_41 rfl ?_
    refine cd_ldc2 (v := 10) d_Dig_withNumber_43 kw_1_231 ?_
    refine cd_lmul d_Dig_withNumber_46 ?_
    refine cd_lload_n (i := 3) d_Dig_withNumber_47 rfl rfl ?_
    refine cd_lcmp d_Dig_withNumber_48 ?_
    refine cd_if_gt (tgt := 66) d_Dig_withNumber_49 (by decide) (fun t2 => ?_) (fun t2 => ?_)
    · replace H := H.1 t2
      refine cd_iconst (v := 0) d_Dig_withNumber_66 (by decide) ?_
      refine cd_istore (i := 7) d_Dig_withNumber_67 (by decide) ?_
      show cd_W X m_Dig_withNumber kc ks 69 [none, none, some (.int v2), some (.long v3), none, some (.long v5), none, some (.int 0)] [] h Q
      exact H
    · replace H := H.2 t2
      refine cd_lload (i := 5) d_Dig_withNumber_52 rfl ?_
      refine cd_ldc2 (v := 10) d_Dig_withNumber_54 kw_1_231 ?_
      refine cd_lmul d_Dig_withNumber_57 ?_
      refine cd_lstore (i := 5) d_Dig_withNumber_58 (by decide) ?_
      show cd_W X m_Dig_withNumber kc ks 60 [none, none, some (.int v2), some (.long v3), none, some (.long (v5 * 10)), none, some (.int v7)] [] h Q
      refine cd_iinc (i := 7) (v := (v7 + 1)) d_Dig_withNumber_60 rfl (cd_inc1 _) (by decide) ?_
      show cd_W X m_Dig_withNumber kc ks 63 [none, none, some (.int v2), some (.long v3), none, some (.long (v5 * 10)), none, some (.int (v7 + 1))] [] h Q
      refine cd_goto (tgt := 34) d_Dig_withNumber_63 (by decide) ?_
      exact H

theorem d_Dig_withNumber_69 : decode prog_5_method_4_code 69 = .ok (.iload 7, 2) := by decide +kernel
theorem d_Dig_withNumber_71 : decode prog_5_method_4_code 71 = .ok (.bipush 10, 2) := by decide +kernel
theorem d_Dig_withNumber_73 : decode prog_5_method_4_code 73 = .ok (.if_icmp .ge 41, 3) := by decide +kernel
theorem d_Dig_withNumber_114 : decode prog_5_method_4_code 114 = .ok (.iload_n 2, 1) := by decide +kernel
theorem d_Dig_withNumber_115 : decode prog_5_method_4_code 115 = .ok (.ireturn, 1) := by decide +kernel
theorem d_Dig_withNumber_76 : decode prog_5_method_4_code 76 = .ok (.lload 5, 2) := by decide +kernel
theorem d_Dig_withNumber_78 : decode prog_5_method_4_code 78 = .ok (.lconst 0, 1) := by decide +kernel
theorem d_Dig_withNumber_79 : decode prog_5_method_4_code 79 = .ok (.lcmp, 1) := by decide +kernel
theorem d_Dig_withNumber_80 : decode prog_5_method_4_code 80 = .ok (.ifCond .le 34, 3) := by decide +kernel
theorem d_Dig_withNumber_83 : decode prog_5_method_4_code 83 = .ok (.iload_n 2, 1) := by decide +kernel
theorem d_Dig_withNumber_84 : decode prog_5_method_4_code 84 = .ok (.bipush 48, 2) := by decide +kernel
theorem d_Dig_withNumber_86 : decode prog_5_method_4_code 86 = .ok (.lload_n 3, 1) := by decide +kernel
theorem d_Dig_withNumber_87 : decode prog_5_method_4_code 87 = .ok (.lload 5, 2) := by decide +kernel
theorem d_Dig_withNumber_89 : decode prog_5_method_4_code 89 = .ok (.ldiv, 1) := by decide +kernel
theorem d_Dig_withNumber_90 : decode prog_5_method_4_code 90 = .ok (.ldc2_w 27, 3) := by decide +kernel
theorem d_Dig_withNumber_93 : decode prog_5_method_4_code 93 = .ok (.lrem, 1) := by decide +kernel
theorem d_Dig_withNumber_94 : decode prog_5_method_4_code 94 = .ok (.l2i, 1) := by decide +kernel
theorem d_Dig_withNumber_95 : decode prog_5_method_4_code 95 = .ok (.iadd, 1) := by decide +kernel
theorem d_Dig_withNumber_96 : decode prog_5_method_4_code 96 = .ok (.invokestatic 23, 3) := by decide +kernel
theorem d_Dig_withNumber_99 : decode prog_5_method_4_code 99 = .ok (.istore_n 2, 1) := by decide +kernel
theorem d_Dig_withNumber_100 : decode prog_5_method_4_code 100 = .ok (.lload 5, 2) := by decide +kernel
theorem d_Dig_withNumber_102 : decode prog_5_method_4_code 102 = .ok (.ldc2_w 27, 3) := by decide +kernel
theorem d_Dig_withNumber_105 : decode prog_5_method_4_code 105 = .ok (.ldiv, 1) := by decide +kernel
theorem d_Dig_withNumber_106 : decode prog_5_method_4_code 106 = .ok (.lstore 5, 2) := by decide +kernel
theorem d_Dig_withNumber_108 : decode prog_5_method_4_code 108 = .ok (.iinc 7 1, 3) := by decide +kernel
theorem d_Dig_withNumber_111 : decode prog_5_method_4_code 111 = .ok (.goto (-42), 3) := by decide +kernel
theorem g_Dig_withNumber_69 {X : cd_E} {kc ks : Nat} {h : cd_H} {Q : Option Value → cd_H → Prop} {v2 : Int32} {v3 : Int64} {v5 : Int64} {v7 : Int32} (F : cc_ok h) (H : (((10 ≤ v7) → (Q (some (.int v2)) h)) ∧ ((¬ 10 ≤ v7) → (((((lg_cmp v5 0) ≤ 0) → (Q (some (.int v2)) h)) ∧ ((¬ (lg_cmp v5 0) ≤ 0) → ((¬ v5 = 0) ∧ (cd_W X m_Dig_with 0 0 0 [some (.int v2), some (.int (48 + ((v3 / v5) - (v3 / v5) / 10 * 10).toInt32))] [] h (fun r4 h5 => ∃ x6 : Int32, r4 = some (.int x6) ∧ ((cc_ok h5) ∧ (cd_W X m_Dig_withNumber kc ks 69 [none, none, some (.int x6), some (.long v3), none, some (.long (v5 / 10)), none, some (.int (v7 + 1))] [] h5 Q))))))))))) : cd_W X m_Dig_withNumber kc ks 69 [none, none, some (.int v2), some (.long v3), none, some (.long v5), none, some (.int v7)] [] h Q := by
  refine cd_iload (i := 7) d_Dig_withNumber_69 rfl ?_
  refine cd_bipush (v := 10) d_Dig_withNumber_71 (by decide) ?_
  refine cd_icmp_ge (tgt := 114) d_Dig_withNumber_73 (by decide) (fun t1 => ?_) (fun t1 => ?_)
  · replace H := H.1 t1
    refine cd_iload_n (i := 2) d_Dig_withNumber_114 rfl rfl ?_
    exact cd_iret d_Dig_withNumber_115 rfl rfl H
  · replace H := H.2 t1
    refine cd_lload (i := 5) d_Dig_withNumber_76 rfl ?_
    refine cd_lconst (v := 0) d_Dig_withNumber_78 (by decide) ?_
    refine cd_lcmp d_Dig_withNumber_79 ?_
    refine cd_if_le (tgt := 114) d_Dig_withNumber_80 (by decide) (fun t2 => ?_) (fun t2 => ?_)
    · replace H := H.1 t2
      refine cd_iload_n (i := 2) d_Dig_withNumber_114 rfl rfl ?_
      exact cd_iret d_Dig_withNumber_115 rfl rfl H
    · replace H := H.2 t2
      refine cd_iload_n (i := 2) d_Dig_withNumber_83 rfl rfl ?_
      refine cd_bipush (v := 48) d_Dig_withNumber_84 (by decide) ?_
      refine cd_lload_n (i := 3) d_Dig_withNumber_86 rfl rfl ?_
      refine cd_lload (i := 5) d_Dig_withNumber_87 rfl ?_
      obtain ⟨c3, H⟩ := H
      refine cd_ldiv d_Dig_withNumber_89 c3 ?_
      refine cd_ldc2 (v := 10) d_Dig_withNumber_90 kw_1_231 ?_
      refine cd_lrem d_Dig_withNumber_93 (by decide) ?_
      refine cd_l2i d_Dig_withNumber_94 ?_
      refine cd_iadd d_Dig_withNumber_95 ?_
      refine cd_callS (kc := kc) (ks := ks) (kc' := 0) (ks' := 0) (As := [.int v2, .int (48 + ((v3 / v5) - (v3 / v5) / 10 * 10).toInt32)]) (S := []) d_Dig_withNumber_96 ca_Dig_withNumber_23 rfl (Nat.le_of_ble_eq_true rfl) (Nat.le_of_ble_eq_true rfl) ?_
      refine cd_W.mono (fun r4 h5 H => ?_) H
      obtain ⟨x6, rfl, H⟩ := H
      obtain ⟨F7, H⟩ := H
      show cd_W X m_Dig_withNumber kc ks 99 [none, none, some (.int v2), some (.long v3), none, some (.long v5), none, some (.int v7)] [.int x6] h5 Q
      refine cd_istore_n (i := 2) d_Dig_withNumber_99 rfl (by decide) ?_
      show cd_W X m_Dig_withNumber kc ks 100 [none, none, some (.int x6), some (.long v3), none, some (.long v5), none, some (.int v7)] [] h5 Q
      refine cd_lload (i := 5) d_Dig_withNumber_100 rfl ?_
      refine cd_ldc2 (v := 10) d_Dig_withNumber_102 kw_1_231 ?_
      refine cd_ldiv d_Dig_withNumber_105 (by decide) ?_
      refine cd_lstore (i := 5) d_Dig_withNumber_106 (by decide) ?_
      show cd_W X m_Dig_withNumber kc ks 108 [none, none, some (.int x6), some (.long v3), none, some (.long (v5 / 10)), none, some (.int v7)] [] h5 Q
      refine cd_iinc (i := 7) (v := (v7 + 1)) d_Dig_withNumber_108 rfl (cd_inc1 _) (by decide) ?_
      show cd_W X m_Dig_withNumber kc ks 111 [none, none, some (.int x6), some (.long v3), none, some (.long (v5 / 10)), none, some (.int (v7 + 1))] [] h5 Q
      refine cd_goto (tgt := 69) d_Dig_withNumber_111 (by decide) ?_
      exact H

abbrev m_Key_init : cd_M := (⟨"CertificateDesk$Key", "<init>", "(IIII)V"⟩, prog_7_method_1_code, 5, none, 1, 20)
theorem d_Key_init_0 : decode prog_7_method_1_code 0 = .ok (.aload_n 0, 1) := by decide +kernel
theorem d_Key_init_1 : decode prog_7_method_1_code 1 = .ok (.invokespecial 3, 3) := by decide +kernel
theorem kw_1_43 : (Jvm.Cond.methodLink "CertificateDesk$Key" (3 : Nat) ({ cls := "java/lang/Object", name := "<init>", desc := "()V" } : Jvm.MethodName)) ∈ cd_tbl := tb_1 (List.mem_of_getElem? (i := 43) (by decide +kernel)) (by decide)
theorem kw_1_35 : (Jvm.Cond.instanceMethod ({ cls := "java/lang/Object", name := "<init>", desc := "()V" } : Jvm.MethodName)) ∈ cd_tbl := tb_1 (List.mem_of_getElem? (i := 35) (by decide +kernel)) (by decide)
theorem kw_1_36 : (Jvm.Cond.code ({ cls := "java/lang/Object", name := "<init>", desc := "()V" } : Jvm.MethodName) object_method_1_code (1 : Nat) (Option.none : Option Jvm.ClassFile.FieldType)) ∈ cd_tbl := tb_1 (List.mem_of_getElem? (i := 36) (by decide +kernel)) (by decide)
theorem d_Key_init_4 : decode prog_7_method_1_code 4 = .ok (.aload_n 0, 1) := by decide +kernel
theorem d_Key_init_5 : decode prog_7_method_1_code 5 = .ok (.iload_n 1, 1) := by decide +kernel
theorem d_Key_init_6 : decode prog_7_method_1_code 6 = .ok (.putfield 9, 3) := by decide +kernel
theorem kw_1_44 : (Jvm.Cond.fieldLink "CertificateDesk$Key" (9 : Nat) "CertificateDesk$Key" "number" "I") ∈ cd_tbl := tb_1 (List.mem_of_getElem? (i := 44) (by decide +kernel)) (by decide)
theorem kw_1_49 : (Jvm.Cond.laysFinal "CertificateDesk$Key" "CertificateDesk$Key" "number" "I") ∈ cd_tbl := tb_1 (List.mem_of_getElem? (i := 49) (by decide +kernel)) (by decide)
theorem kw_1_51 : (Jvm.Cond.laysFinal "CertificateDesk$Key" "CertificateDesk$Key" "modulus" "I") ∈ cd_tbl := tb_1 (List.mem_of_getElem? (i := 51) (by decide +kernel)) (by decide)
theorem kw_1_53 : (Jvm.Cond.laysFinal "CertificateDesk$Key" "CertificateDesk$Key" "exponent" "I") ∈ cd_tbl := tb_1 (List.mem_of_getElem? (i := 53) (by decide +kernel)) (by decide)
theorem kw_1_55 : (Jvm.Cond.laysFinal "CertificateDesk$Key" "CertificateDesk$Key" "secret" "I") ∈ cd_tbl := tb_1 (List.mem_of_getElem? (i := 55) (by decide +kernel)) (by decide)
theorem kw_1_39 : (Jvm.Cond.instantiable "CertificateDesk$Key" (4 : Nat)) ∈ cd_tbl := tb_1 (List.mem_of_getElem? (i := 39) (by decide +kernel)) (by decide)
theorem kw_1_2 : (Jvm.Cond.initialized "CertificateDesk$Key") ∈ cd_tbl := tb_1 (List.mem_of_getElem? (i := 2) (by decide +kernel)) (by decide)
theorem cl_4 : cd_CL 4 4 := ⟨_, rfl, List.forall_mem_cons.mpr ⟨kw_1_49, List.forall_mem_cons.mpr ⟨kw_1_51, List.forall_mem_cons.mpr ⟨kw_1_53, List.forall_mem_cons.mpr ⟨kw_1_55, fun _ h => absurd h List.not_mem_nil⟩⟩⟩⟩, by decide +kernel, by decide +kernel, kw_1_39, kw_1_2, by decide +kernel⟩
theorem fp_Key_init_9 {X : cd_E} : cd_FP X m_Key_init 9 4 0 .int := cd_FP.of cl_4 rfl rfl (by decide) kw_1_44 (Or.inl rfl) (Or.inr ⟨rfl, rfl, rfl⟩)
theorem d_Key_init_9 : decode prog_7_method_1_code 9 = .ok (.aload_n 0, 1) := by decide +kernel
theorem d_Key_init_10 : decode prog_7_method_1_code 10 = .ok (.iload_n 2, 1) := by decide +kernel
theorem d_Key_init_11 : decode prog_7_method_1_code 11 = .ok (.putfield 15, 3) := by decide +kernel
theorem kw_1_46 : (Jvm.Cond.fieldLink "CertificateDesk$Key" (15 : Nat) "CertificateDesk$Key" "modulus" "I") ∈ cd_tbl := tb_1 (List.mem_of_getElem? (i := 46) (by decide +kernel)) (by decide)
theorem fp_Key_init_15 {X : cd_E} : cd_FP X m_Key_init 15 4 1 .int := cd_FP.of cl_4 rfl rfl (by decide) kw_1_46 (Or.inl rfl) (Or.inr ⟨rfl, rfl, rfl⟩)
theorem d_Key_init_14 : decode prog_7_method_1_code 14 = .ok (.aload_n 0, 1) := by decide +kernel
theorem d_Key_init_15 : decode prog_7_method_1_code 15 = .ok (.iload_n 3, 1) := by decide +kernel
theorem d_Key_init_16 : decode prog_7_method_1_code 16 = .ok (.putfield 18, 3) := by decide +kernel
theorem kw_1_47 : (Jvm.Cond.fieldLink "CertificateDesk$Key" (18 : Nat) "CertificateDesk$Key" "exponent" "I") ∈ cd_tbl := tb_1 (List.mem_of_getElem? (i := 47) (by decide +kernel)) (by decide)
theorem fp_Key_init_18 {X : cd_E} : cd_FP X m_Key_init 18 4 2 .int := cd_FP.of cl_4 rfl rfl (by decide) kw_1_47 (Or.inl rfl) (Or.inr ⟨rfl, rfl, rfl⟩)
theorem d_Key_init_19 : decode prog_7_method_1_code 19 = .ok (.aload_n 0, 1) := by decide +kernel
theorem d_Key_init_20 : decode prog_7_method_1_code 20 = .ok (.iload 4, 2) := by decide +kernel
theorem d_Key_init_22 : decode prog_7_method_1_code 22 = .ok (.putfield 21, 3) := by decide +kernel
theorem kw_1_48 : (Jvm.Cond.fieldLink "CertificateDesk$Key" (21 : Nat) "CertificateDesk$Key" "secret" "I") ∈ cd_tbl := tb_1 (List.mem_of_getElem? (i := 48) (by decide +kernel)) (by decide)
theorem fp_Key_init_21 {X : cd_E} : cd_FP X m_Key_init 21 4 3 .int := cd_FP.of cl_4 rfl rfl (by decide) kw_1_48 (Or.inl rfl) (Or.inr ⟨rfl, rfl, rfl⟩)
theorem d_Key_init_25 : decode prog_7_method_1_code 25 = .ok (.return_, 1) := by decide +kernel
theorem g_Key_init {X : cd_E} {kc ks : Nat} {h : cd_H} {Q : Option Value → cd_H → Prop} {a0 : Nat} {p1 : Int32} {p2 : Int32} {p3 : Int32} {p4 : Int32} (H : (cd_k h a0 = some (.inl 4)) ∧ ((64 ≤ a0) ∧ (Q none (cd_si (cd_si (cd_si (cd_si h a0 0 p1) a0 1 p2) a0 2 p3) a0 3 p4)))) : cd_W X m_Key_init kc ks 0 [some (.ref a0), some (.int p1), some (.int p2), some (.int p3), some (.int p4)] [] h Q := by
  refine cd_aload_n (i := 0) (v := .ref a0) d_Key_init_0 rfl rfl (cd_isr_ref _) ?_
  refine cd_objInit d_Key_init_1 kw_1_43 kw_1_35 kw_1_36 (by decide) (by decide) (Nat.le_of_ble_eq_true rfl) ?_
  refine cd_aload_n (i := 0) (v := .ref a0) d_Key_init_4 rfl rfl (cd_isr_ref _) ?_
  refine cd_iload_n (i := 1) d_Key_init_5 rfl rfl ?_
  obtain ⟨c1, H⟩ := H
  obtain ⟨c2, H⟩ := H
  refine cd_putI d_Key_init_6 fp_Key_init_9 (fun _ _ _ => rfl) c1 c2 rfl rfl ?_
  refine cd_aload_n (i := 0) (v := .ref a0) d_Key_init_9 rfl rfl (cd_isr_ref _) ?_
  refine cd_iload_n (i := 2) d_Key_init_10 rfl rfl ?_
  refine cd_putI d_Key_init_11 fp_Key_init_15 (fun _ _ _ => rfl) c1 c2 rfl rfl ?_
  refine cd_aload_n (i := 0) (v := .ref a0) d_Key_init_14 rfl rfl (cd_isr_ref _) ?_
  refine cd_iload_n (i := 3) d_Key_init_15 rfl rfl ?_
  refine cd_putI d_Key_init_16 fp_Key_init_18 (fun _ _ _ => rfl) c1 c2 rfl rfl ?_
  refine cd_aload_n (i := 0) (v := .ref a0) d_Key_init_19 rfl rfl (cd_isr_ref _) ?_
  refine cd_iload (i := 4) d_Key_init_20 rfl ?_
  refine cd_putI d_Key_init_22 fp_Key_init_21 (fun _ _ _ => rfl) c1 c2 rfl rfl ?_
  exact cd_vret d_Key_init_25 rfl H

abbrev m_Key_thumbprint : cd_M := (⟨"CertificateDesk$Key", "thumbprint", "()I"⟩, prog_7_method_2_code, 2, some .int, 3, 68)
theorem d_Key_thumbprint_0 : decode prog_7_method_2_code 0 = .ok (.bipush 7, 2) := by decide +kernel
theorem d_Key_thumbprint_2 : decode prog_7_method_2_code 2 = .ok (.aload_n 0, 1) := by decide +kernel
theorem d_Key_thumbprint_3 : decode prog_7_method_2_code 3 = .ok (.getfield 18, 3) := by decide +kernel
theorem fl_Key_18 {X : cd_E} : cd_FL X "CertificateDesk$Key" 18 4 2 .int := cd_FL.of rfl rfl (by decide) kw_1_47 (Or.inl rfl)
theorem d_Key_thumbprint_6 : decode prog_7_method_2_code 6 = .ok (.invokestatic 26, 3) := by decide +kernel
theorem kw_4_188 : (Jvm.Cond.methodLink "CertificateDesk$Key" (26 : Nat) ({ cls := "CertificateDesk$Digest", name := "withNumber", desc := "(II)I" } : Jvm.MethodName)) ∈ cd_tbl := tb_4 (List.mem_of_getElem? (i := 188) (by decide +kernel)) (by decide)
theorem kw_1_229 : (Jvm.Cond.code ({ cls := "CertificateDesk$Digest", name := "withNumber", desc := "(II)I" } : Jvm.MethodName) prog_5_method_4_code (8 : Nat) (Option.some Jvm.ClassFile.FieldType.int)) ∈ cd_tbl := tb_1 (List.mem_of_getElem? (i := 229) (by decide +kernel)) (by decide)
theorem kw_1_228 : (Jvm.Cond.static ({ cls := "CertificateDesk$Digest", name := "withNumber", desc := "(II)I" } : Jvm.MethodName)) ∈ cd_tbl := tb_1 (List.mem_of_getElem? (i := 228) (by decide +kernel)) (by decide)
theorem ca_Key_thumbprint_26 {X : cd_E} : cd_CS X m_Key_thumbprint m_Dig_withNumber 26 2 := ⟨⟨by decide, kw_1_229, kw_1_11, ⟨by decide, by decide, by decide +kernel⟩, by decide, by decide⟩, kw_1_228, (Or.inl kw_4_188)⟩
theorem d_Key_thumbprint_9 : decode prog_7_method_2_code 9 = .ok (.istore_n 1, 1) := by decide +kernel
theorem d_Key_thumbprint_10 : decode prog_7_method_2_code 10 = .ok (.iload_n 1, 1) := by decide +kernel
theorem d_Key_thumbprint_11 : decode prog_7_method_2_code 11 = .ok (.bipush 58, 2) := by decide +kernel
theorem d_Key_thumbprint_13 : decode prog_7_method_2_code 13 = .ok (.invokestatic 30, 3) := by decide +kernel
theorem kw_4_189 : (Jvm.Cond.methodLink "CertificateDesk$Key" (30 : Nat) ({ cls := "CertificateDesk$Digest", name := "with", desc := "(II)I" } : Jvm.MethodName)) ∈ cd_tbl := tb_4 (List.mem_of_getElem? (i := 189) (by decide +kernel)) (by decide)
theorem ca_Key_thumbprint_30 {X : cd_E} : cd_CS X m_Key_thumbprint m_Dig_with 30 2 := ⟨⟨by decide, kw_1_223, kw_1_11, ⟨by decide, by decide, by decide +kernel⟩, by decide, by decide⟩, kw_1_222, (Or.inl kw_4_189)⟩
theorem d_Key_thumbprint_16 : decode prog_7_method_2_code 16 = .ok (.aload_n 0, 1) := by decide +kernel
theorem d_Key_thumbprint_17 : decode prog_7_method_2_code 17 = .ok (.getfield 15, 3) := by decide +kernel
theorem fl_Key_15 {X : cd_E} : cd_FL X "CertificateDesk$Key" 15 4 1 .int := cd_FL.of rfl rfl (by decide) kw_1_46 (Or.inl rfl)
theorem d_Key_thumbprint_20 : decode prog_7_method_2_code 20 = .ok (.invokestatic 26, 3) := by decide +kernel
theorem d_Key_thumbprint_23 : decode prog_7_method_2_code 23 = .ok (.ireturn, 1) := by decide +kernel
theorem g_Key_thumbprint {X : cd_E} {kc ks : Nat} {h : cd_H} {Q : Option Value → cd_H → Prop} {a0 : Nat} (F : cc_ok h) (H : (cd_k h a0 = some (.inl 4)) ∧ (cd_W X m_Dig_withNumber 0 0 0 [some (.int 7), some (.int (cd_i h a0 2)), none, none, none, none, none, none] [] h (fun r2 h3 => ∃ x4 : Int32, r2 = some (.int x4) ∧ ((cc_ok h3) ∧ (cd_W X m_Dig_with 0 0 0 [some (.int x4), some (.int 58)] [] h3 (fun r6 h7 => ∃ x8 : Int32, r6 = some (.int x8) ∧ ((cc_ok h7) ∧ ((cd_k h7 a0 = some (.inl 4)) ∧ (cd_W X m_Dig_withNumber 0 0 0 [some (.int x8), some (.int (cd_i h7 a0 1)), none, none, none, none, none, none] [] h7 (fun r11 h12 => ∃ x13 : Int32, r11 = some (.int x13) ∧ ((cc_ok h12) ∧ (Q (some (.int x13)) h12)))))))))))) : cd_W X m_Key_thumbprint kc ks 0 [some (.ref a0), none] [] h Q := by
  refine cd_bipush (v := 7) d_Key_thumbprint_0 (by decide) ?_
  refine cd_aload_n (i := 0) (v := .ref a0) d_Key_thumbprint_2 rfl rfl (cd_isr_ref _) ?_
  obtain ⟨c1, H⟩ := H
  refine cd_get (v := .int (cd_i h a0 2)) d_Key_thumbprint_3 fl_Key_18 c1 rfl ?_
  refine cd_callS (kc := kc) (ks := ks) (kc' := 0) (ks' := 0) (As := [.int 7, .int (cd_i h a0 2)]) (S := []) d_Key_thumbprint_6 ca_Key_thumbprint_26 rfl (Nat.le_of_ble_eq_true rfl) (Nat.le_of_ble_eq_true rfl) ?_
  refine cd_W.mono (fun r2 h3 H => ?_) H
  obtain ⟨x4, rfl, H⟩ := H
  obtain ⟨F5, H⟩ := H
  show cd_W X m_Key_thumbprint kc ks 9 [some (.ref a0), none] [.int x4] h3 Q
  refine cd_istore_n (i := 1) d_Key_thumbprint_9 rfl (by decide) ?_
  show cd_W X m_Key_thumbprint kc ks 10 [some (.ref a0), some (.int x4)] [] h3 Q
  refine cd_iload_n (i := 1) d_Key_thumbprint_10 rfl rfl ?_
  refine cd_bipush (v := 58) d_Key_thumbprint_11 (by decide) ?_
  refine cd_callS (kc := kc) (ks := ks) (kc' := 0) (ks' := 0) (As := [.int x4, .int 58]) (S := []) d_Key_thumbprint_13 ca_Key_thumbprint_30 rfl (Nat.le_of_ble_eq_true rfl) (Nat.le_of_ble_eq_true rfl) ?_
  refine cd_W.mono (fun r6 h7 H => ?_) H
  obtain ⟨x8, rfl, H⟩ := H
  obtain ⟨F9, H⟩ := H
  show cd_W X m_Key_thumbprint kc ks 16 [some (.ref a0), some (.int x4)] [.int x8] h7 Q
  refine cd_aload_n (i := 0) (v := .ref a0) d_Key_thumbprint_16 rfl rfl (cd_isr_ref _) ?_
  obtain ⟨c10, H⟩ := H
  refine cd_get (v := .int (cd_i h7 a0 1)) d_Key_thumbprint_17 fl_Key_15 c10 rfl ?_
  refine cd_callS (kc := kc) (ks := ks) (kc' := 0) (ks' := 0) (As := [.int x8, .int (cd_i h7 a0 1)]) (S := []) d_Key_thumbprint_20 ca_Key_thumbprint_26 rfl (Nat.le_of_ble_eq_true rfl) (Nat.le_of_ble_eq_true rfl) ?_
  refine cd_W.mono (fun r11 h12 H => ?_) H
  obtain ⟨x13, rfl, H⟩ := H
  obtain ⟨F14, H⟩ := H
  show cd_W X m_Key_thumbprint kc ks 23 [some (.ref a0), some (.int x4)] [.int x13] h12 Q
  exact cd_iret d_Key_thumbprint_23 rfl rfl H

abbrev m_Key_sign : cd_M := (⟨"CertificateDesk$Key", "sign", "(I)I"⟩, prog_7_method_3_code, 2, some .int, 2, 47)
theorem d_Key_sign_0 : decode prog_7_method_3_code 0 = .ok (.aload_n 0, 1) := by decide +kernel
theorem d_Key_sign_1 : decode prog_7_method_3_code 1 = .ok (.iload_n 1, 1) := by decide +kernel
theorem d_Key_sign_2 : decode prog_7_method_3_code 2 = .ok (.aload_n 0, 1) := by decide +kernel
theorem d_Key_sign_3 : decode prog_7_method_3_code 3 = .ok (.getfield 21, 3) := by decide +kernel
theorem fl_Key_21 {X : cd_E} : cd_FL X "CertificateDesk$Key" 21 4 3 .int := cd_FL.of rfl rfl (by decide) kw_1_48 (Or.inl rfl)
theorem d_Key_sign_6 : decode prog_7_method_3_code 6 = .ok (.invokevirtual 33, 3) := by decide +kernel
abbrev m_Key_power : cd_M := (⟨"CertificateDesk$Key", "power", "(II)I"⟩, prog_7_method_5_code, 8, some .int, 1, 20)
theorem kw_1_236 : (Jvm.Cond.methodLink "CertificateDesk$Key" (33 : Nat) ({ cls := "CertificateDesk$Key", name := "power", desc := "(II)I" } : Jvm.MethodName)) ∈ cd_tbl := tb_1 (List.mem_of_getElem? (i := 236) (by decide +kernel)) (by decide)
theorem kw_1_239 : (Jvm.Cond.code ({ cls := "CertificateDesk$Key", name := "power", desc := "(II)I" } : Jvm.MethodName) prog_7_method_5_code (8 : Nat) (Option.some Jvm.ClassFile.FieldType.int)) ∈ cd_tbl := tb_1 (List.mem_of_getElem? (i := 239) (by decide +kernel)) (by decide)
theorem kw_1_238 : (Jvm.Cond.instanceMethod ({ cls := "CertificateDesk$Key", name := "power", desc := "(II)I" } : Jvm.MethodName)) ∈ cd_tbl := tb_1 (List.mem_of_getElem? (i := 238) (by decide +kernel)) (by decide)
theorem kp_3 : Cond.selects "CertificateDesk$Key" ⟨"CertificateDesk$Key", "power", "(II)I"⟩ ⟨"CertificateDesk$Key", "power", "(II)I"⟩ ∈ cd_tbl := cd_sel (List.mem_of_getElem? (i := 3) (by decide +kernel)) (by decide)
theorem ca_Key_sign_33 {X : cd_E} : cd_CV X m_Key_sign m_Key_power 33 2 4 := ⟨⟨by decide, kw_1_239, kw_1_2, ⟨by decide, by decide, by decide +kernel⟩, by decide, by decide⟩, ⟨_, rfl, rfl⟩, kw_1_238, kp_3, (Or.inl kw_1_236)⟩
theorem d_Key_sign_9 : decode prog_7_method_3_code 9 = .ok (.ireturn, 1) := by decide +kernel
theorem g_Key_sign {X : cd_E} {kc ks : Nat} {h : cd_H} {Q : Option Value → cd_H → Prop} {a0 : Nat} {p1 : Int32} (F : cc_ok h) (H : (cd_k h a0 = some (.inl 4)) ∧ (cd_W X m_Key_power 0 0 0 [some (.ref a0), some (.int p1), some (.int (cd_i h a0 3)), none, none, none, none, none] [] h (fun r2 h3 => ∃ x4 : Int32, r2 = some (.int x4) ∧ ((cc_ok h3) ∧ (Q (some (.int x4)) h3))))) : cd_W X m_Key_sign kc ks 0 [some (.ref a0), some (.int p1)] [] h Q := by
  refine cd_aload_n (i := 0) (v := .ref a0) d_Key_sign_0 rfl rfl (cd_isr_ref _) ?_
  refine cd_iload_n (i := 1) d_Key_sign_1 rfl rfl ?_
  refine cd_aload_n (i := 0) (v := .ref a0) d_Key_sign_2 rfl rfl (cd_isr_ref _) ?_
  obtain ⟨c1, H⟩ := H
  refine cd_get (v := .int (cd_i h a0 3)) d_Key_sign_3 fl_Key_21 c1 rfl ?_
  refine cd_callV (kc := kc) (ks := ks) (kc' := 0) (ks' := 0) (As := [.int p1, .int (cd_i h a0 3)]) (S := []) d_Key_sign_6 ca_Key_sign_33 c1 rfl (Nat.le_of_ble_eq_true rfl) (Nat.le_of_ble_eq_true rfl) ?_
  refine cd_W.mono (fun r2 h3 H => ?_) H
  obtain ⟨x4, rfl, H⟩ := H
  obtain ⟨F5, H⟩ := H
  show cd_W X m_Key_sign kc ks 9 [some (.ref a0), some (.int p1)] [.int x4] h3 Q
  exact cd_iret d_Key_sign_9 rfl rfl H

abbrev m_Key_verifies : cd_M := (⟨"CertificateDesk$Key", "verifies", "(II)Z"⟩, prog_7_method_4_code, 3, some .boolean, 2, 47)
theorem d_Key_verifies_0 : decode prog_7_method_4_code 0 = .ok (.iload_n 1, 1) := by decide +kernel
theorem d_Key_verifies_1 : decode prog_7_method_4_code 1 = .ok (.ifCond .lt 33, 3) := by decide +kernel
theorem d_Key_verifies_34 : decode prog_7_method_4_code 34 = .ok (.iconst 0, 1) := by decide +kernel
theorem d_Key_verifies_35 : decode prog_7_method_4_code 35 = .ok (.ireturn, 1) := by decide +kernel
theorem d_Key_verifies_4 : decode prog_7_method_4_code 4 = .ok (.iload_n 1, 1) := by decide +kernel
theorem d_Key_verifies_5 : decode prog_7_method_4_code 5 = .ok (.aload_n 0, 1) := by decide +kernel
theorem d_Key_verifies_6 : decode prog_7_method_4_code 6 = .ok (.getfield 15, 3) := by decide +kernel
theorem d_Key_verifies_9 : decode prog_7_method_4_code 9 = .ok (.if_icmp .ge 25, 3) := by decide +kernel
theorem d_Key_verifies_12 : decode prog_7_method_4_code 12 = .ok (.aload_n 0, 1) := by decide +kernel
theorem d_Key_verifies_13 : decode prog_7_method_4_code 13 = .ok (.iload_n 1, 1) := by decide +kernel
theorem d_Key_verifies_14 : decode prog_7_method_4_code 14 = .ok (.aload_n 0, 1) := by decide +kernel
theorem d_Key_verifies_15 : decode prog_7_method_4_code 15 = .ok (.getfield 18, 3) := by decide +kernel
theorem d_Key_verifies_18 : decode prog_7_method_4_code 18 = .ok (.invokevirtual 33, 3) := by decide +kernel
theorem ca_Key_verifies_33 {X : cd_E} : cd_CV X m_Key_verifies m_Key_power 33 2 4 := ⟨⟨by decide, kw_1_239, kw_1_2, ⟨by decide, by decide, by decide +kernel⟩, by decide, by decide⟩, ⟨_, rfl, rfl⟩, kw_1_238, kp_3, (Or.inl kw_1_236)⟩
theorem d_Key_verifies_21 : decode prog_7_method_4_code 21 = .ok (.aload_n 0, 1) := by decide +kernel
theorem d_Key_verifies_22 : decode prog_7_method_4_code 22 = .ok (.iload_n 2, 1) := by decide +kernel
theorem d_Key_verifies_23 : decode prog_7_method_4_code 23 = .ok (.iconst 1, 1) := by decide +kernel
theorem d_Key_verifies_24 : decode prog_7_method_4_code 24 = .ok (.invokevirtual 33, 3) := by decide +kernel
theorem d_Key_verifies_27 : decode prog_7_method_4_code 27 = .ok (.if_icmp .ne 7, 3) := by decide +kernel
theorem d_Key_verifies_30 : decode prog_7_method_4_code 30 = .ok (.iconst 1, 1) := by decide +kernel
theorem d_Key_verifies_31 : decode prog_7_method_4_code 31 = .ok (.goto 4, 3) := by decide +kernel
theorem g_Key_verifies {X : cd_E} {kc ks : Nat} {h : cd_H} {Q : Option Value → cd_H → Prop} {a0 : Nat} {p1 : Int32} {p2 : Int32} (F : cc_ok h) (H : (((p1 < 0) → (Q (some (.int 0)) h)) ∧ ((¬ p1 < 0) → ((cd_k h a0 = some (.inl 4)) ∧ (((((cd_i h a0 1) ≤ p1) → (Q (some (.int 0)) h)) ∧ ((¬ (cd_i h a0 1) ≤ p1) → (cd_W X m_Key_power 0 0 0 [some (.ref a0), some (.int p1), some (.int (cd_i h a0 2)), none, none, none, none, none] [] h (fun r4 h5 => ∃ x6 : Int32, r4 = some (.int x6) ∧ ((cc_ok h5) ∧ ((cd_k h5 a0 = some (.inl 4)) ∧ (cd_W X m_Key_power 0 0 0 [some (.ref a0), some (.int p2), some (.int 1), none, none, none, none, none] [] h5 (fun r9 h10 => ∃ x11 : Int32, r9 = some (.int x11) ∧ ((cc_ok h10) ∧ ((((¬ x6 = x11) → (Q (some (.int 0)) h10)) ∧ ((x6 = x11) → (Q (some (.int 1)) h10)))))))))))))))))) : cd_W X m_Key_verifies kc ks 0 [some (.ref a0), some (.int p1), some (.int p2)] [] h Q := by
  refine cd_iload_n (i := 1) d_Key_verifies_0 rfl rfl ?_
  refine cd_if_lt (tgt := 34) d_Key_verifies_1 (by decide) (fun t1 => ?_) (fun t1 => ?_)
  · replace H := H.1 t1
    refine cd_iconst (v := 0) d_Key_verifies_34 (by decide) ?_
    exact cd_iret d_Key_verifies_35 rfl rfl H
  · replace H := H.2 t1
    refine cd_iload_n (i := 1) d_Key_verifies_4 rfl rfl ?_
    refine cd_aload_n (i := 0) (v := .ref a0) d_Key_verifies_5 rfl rfl (cd_isr_ref _) ?_
    obtain ⟨c2, H⟩ := H
    refine cd_get (v := .int (cd_i h a0 1)) d_Key_verifies_6 fl_Key_15 c2 rfl ?_
    refine cd_icmp_ge (tgt := 34) d_Key_verifies_9 (by decide) (fun t3 => ?_) (fun t3 => ?_)
    · replace H := H.1 t3
      refine cd_iconst (v := 0) d_Key_verifies_34 (by decide) ?_
      exact cd_iret d_Key_verifies_35 rfl rfl H
    · replace H := H.2 t3
      refine cd_aload_n (i := 0) (v := .ref a0) d_Key_verifies_12 rfl rfl (cd_isr_ref _) ?_
      refine cd_iload_n (i := 1) d_Key_verifies_13 rfl rfl ?_
      refine cd_aload_n (i := 0) (v := .ref a0) d_Key_verifies_14 rfl rfl (cd_isr_ref _) ?_
      refine cd_get (v := .int (cd_i h a0 2)) d_Key_verifies_15 fl_Key_18 c2 rfl ?_
      refine cd_callV (kc := kc) (ks := ks) (kc' := 0) (ks' := 0) (As := [.int p1, .int (cd_i h a0 2)]) (S := []) d_Key_verifies_18 ca_Key_verifies_33 c2 rfl (Nat.le_of_ble_eq_true rfl) (Nat.le_of_ble_eq_true rfl) ?_
      refine cd_W.mono (fun r4 h5 H => ?_) H
      obtain ⟨x6, rfl, H⟩ := H
      obtain ⟨F7, H⟩ := H
      show cd_W X m_Key_verifies kc ks 21 [some (.ref a0), some (.int p1), some (.int p2)] [.int x6] h5 Q
      refine cd_aload_n (i := 0) (v := .ref a0) d_Key_verifies_21 rfl rfl (cd_isr_ref _) ?_
      refine cd_iload_n (i := 2) d_Key_verifies_22 rfl rfl ?_
      refine cd_iconst (v := 1) d_Key_verifies_23 (by decide) ?_
      obtain ⟨c8, H⟩ := H
      refine cd_callV (kc := kc) (ks := ks) (kc' := 0) (ks' := 0) (As := [.int p2, .int 1]) (S := [.int x6]) d_Key_verifies_24 ca_Key_verifies_33 c8 rfl (Nat.le_of_ble_eq_true rfl) (Nat.le_of_ble_eq_true rfl) ?_
      refine cd_W.mono (fun r9 h10 H => ?_) H
      obtain ⟨x11, rfl, H⟩ := H
      obtain ⟨F12, H⟩ := H
      show cd_W X m_Key_verifies kc ks 27 [some (.ref a0), some (.int p1), some (.int p2)] [.int x11, .int x6] h10 Q
      refine cd_icmp_ne (tgt := 34) d_Key_verifies_27 (by decide) (fun t13 => ?_) (fun t13 => ?_)
      · replace H := H.1 t13
        refine cd_iconst (v := 0) d_Key_verifies_34 (by decide) ?_
        exact cd_iret d_Key_verifies_35 rfl rfl H
      · replace H := H.2 t13
        refine cd_iconst (v := 1) d_Key_verifies_30 (by decide) ?_
        refine cd_goto (tgt := 35) d_Key_verifies_31 (by decide) ?_
        exact cd_iret d_Key_verifies_35 rfl rfl H

theorem d_Key_power_0 : decode prog_7_method_5_code 0 = .ok (.aload_n 0, 1) := by decide +kernel
theorem d_Key_power_1 : decode prog_7_method_5_code 1 = .ok (.getfield 15, 3) := by decide +kernel
theorem d_Key_power_4 : decode prog_7_method_5_code 4 = .ok (.ifCond .gt 5, 3) := by decide +kernel
theorem d_Key_power_9 : decode prog_7_method_5_code 9 = .ok (.lconst 1, 1) := by decide +kernel
theorem d_Key_power_10 : decode prog_7_method_5_code 10 = .ok (.lstore_n 3, 1) := by decide +kernel
theorem d_Key_power_11 : decode prog_7_method_5_code 11 = .ok (.iload_n 1, 1) := by decide +kernel
theorem d_Key_power_12 : decode prog_7_method_5_code 12 = .ok (.aload_n 0, 1) := by decide +kernel
theorem d_Key_power_13 : decode prog_7_method_5_code 13 = .ok (.getfield 15, 3) := by decide +kernel
theorem d_Key_power_16 : decode prog_7_method_5_code 16 = .ok (.irem, 1) := by decide +kernel
theorem d_Key_power_17 : decode prog_7_method_5_code 17 = .ok (.i2l, 1) := by decide +kernel
theorem d_Key_power_18 : decode prog_7_method_5_code 18 = .ok (.lstore 5, 2) := by decide +kernel
theorem d_Key_power_20 : decode prog_7_method_5_code 20 = .ok (.iload_n 2, 1) := by decide +kernel
theorem d_Key_power_21 : decode prog_7_method_5_code 21 = .ok (.istore 7, 2) := by decide +kernel
theorem d_Key_power_7 : decode prog_7_method_5_code 7 = .ok (.iconst (-1), 1) := by decide +kernel
theorem d_Key_power_8 : decode prog_7_method_5_code 8 = .ok (.ireturn, 1) := by decide +kernel
theorem g_Key_power {X : cd_E} {kc ks : Nat} {h : cd_H} {Q : Option Value → cd_H → Prop} {a0 : Nat} {p1 : Int32} {p2 : Int32} (F : cc_ok h) (H : (cd_k h a0 = some (.inl 4)) ∧ ((((0 < (cd_i h a0 1)) → ((¬ (cd_i h a0 1) = 0) ∧ (cd_W X m_Key_power kc ks 23 [some (.ref a0), none, none, some (.long 1), none, some (.long ((p1 - p1 / (cd_i h a0 1) * (cd_i h a0 1)).toInt64)), none, some (.int p2)] [] h Q))) ∧ ((¬ 0 < (cd_i h a0 1)) → (Q (some (.int (-1))) h))))) : cd_W X m_Key_power kc ks 0 [some (.ref a0), some (.int p1), some (.int p2), none, none, none, none, none] [] h Q := by
  refine cd_aload_n (i := 0) (v := .ref a0) d_Key_power_0 rfl rfl (cd_isr_ref _) ?_
  obtain ⟨c1, H⟩ := H
  refine cd_get (v := .int (cd_i h a0 1)) d_Key_power_1 fl_Key_15 c1 rfl ?_
  refine cd_if_gt (tgt := 9) d_Key_power_4 (by decide) (fun t2 => ?_) (fun t2 => ?_)
  · replace H := H.1 t2
    refine cd_lconst (v := 1) d_Key_power_9 (by decide) ?_
    refine cd_lstore_n (i := 3) d_Key_power_10 rfl (by decide) ?_
    show cd_W X m_Key_power kc ks 11 [some (.ref a0), some (.int p1), some (.int p2), some (.long 1), none, none, none, none] [] h Q
    refine cd_iload_n (i := 1) d_Key_power_11 rfl rfl ?_
    refine cd_aload_n (i := 0) (v := .ref a0) d_Key_power_12 rfl rfl (cd_isr_ref _) ?_
    refine cd_get (v := .int (cd_i h a0 1)) d_Key_power_13 fl_Key_15 c1 rfl ?_
    obtain ⟨c3, H⟩ := H
    refine cd_irem d_Key_power_16 c3 ?_
    refine cd_i2l d_Key_power_17 ?_
    refine cd_lstore (i := 5) d_Key_power_18 (by decide) ?_
    show cd_W X m_Key_power kc ks 20 [some (.ref a0), some (.int p1), some (.int p2), some (.long 1), none, some (.long ((p1 - p1 / (cd_i h a0 1) * (cd_i h a0 1)).toInt64)), none, none] [] h Q
    refine cd_iload_n (i := 2) d_Key_power_20 rfl rfl ?_
    refine cd_istore (i := 7) d_Key_power_21 (by decide) ?_
    show cd_W X m_Key_power kc ks 23 [some (.ref a0), some (.int p1), some (.int p2), some (.long 1), none, some (.long ((p1 - p1 / (cd_i h a0 1) * (cd_i h a0 1)).toInt64)), none, some (.int p2)] [] h Q
    refine cd_W.drop (i := 1) ?_
    refine cd_W.drop (i := 2) ?_
    exact H
  · replace H := H.2 t2
    refine cd_iconst (v := (-1)) d_Key_power_7 (by decide) ?_
    exact cd_iret d_Key_power_8 rfl rfl H

theorem d_Key_power_23 : decode prog_7_method_5_code 23 = .ok (.iload 7, 2) := by decide +kernel
theorem d_Key_power_25 : decode prog_7_method_5_code 25 = .ok (.ifCond .le 44, 3) := by decide +kernel
theorem d_Key_power_69 : decode prog_7_method_5_code 69 = .ok (.lload_n 3, 1) := by decide +kernel
theorem d_Key_power_70 : decode prog_7_method_5_code 70 = .ok (.l2i, 1) := by decide +kernel
theorem d_Key_power_71 : decode prog_7_method_5_code 71 = .ok (.ireturn, 1) := by decide +kernel
theorem d_Key_power_28 : decode prog_7_method_5_code 28 = .ok (.iload 7, 2) := by decide +kernel
theorem d_Key_power_30 : decode prog_7_method_5_code 30 = .ok (.iconst 1, 1) := by decide +kernel
theorem d_Key_power_31 : decode prog_7_method_5_code 31 = .ok (.iand, 1) := by decide +kernel
theorem d_Key_power_32 : decode prog_7_method_5_code 32 = .ok (.iconst 1, 1) := by decide +kernel
theorem d_Key_power_33 : decode prog_7_method_5_code 33 = .ok (.if_icmp .ne 14, 3) := by decide +kernel
theorem d_Key_power_47 : decode prog_7_method_5_code 47 = .ok (.lload 5, 2) := by decide +kernel
theorem d_Key_power_49 : decode prog_7_method_5_code 49 = .ok (.lload 5, 2) := by decide +kernel
theorem d_Key_power_51 : decode prog_7_method_5_code 51 = .ok (.lmul, 1) := by decide +kernel
theorem d_Key_power_52 : decode prog_7_method_5_code 52 = .ok (.aload_n 0, 1) := by decide +kernel
theorem d_Key_power_53 : decode prog_7_method_5_code 53 = .ok (.getfield 15, 3) := by decide +kernel
theorem d_Key_power_56 : decode prog_7_method_5_code 56 = .ok (.i2l, 1) := by decide +kernel
theorem d_Key_power_57 : decode prog_7_method_5_code 57 = .ok (.lrem, 1) := by decide +kernel
theorem d_Key_power_58 : decode prog_7_method_5_code 58 = .ok (.lstore 5, 2) := by decide +kernel
theorem d_Key_power_60 : decode prog_7_method_5_code 60 = .ok (.iload 7, 2) := by decide +kernel
theorem d_Key_power_62 : decode prog_7_method_5_code 62 = .ok (.iconst 1, 1) := by decide +kernel
theorem d_Key_power_63 : decode prog_7_method_5_code 63 = .ok (.ishr, 1) := by decide +kernel
theorem d_Key_power_64 : decode prog_7_method_5_code 64 = .ok (.istore 7, 2) := by decide +kernel
theorem d_Key_power_66 : decode prog_7_method_5_code 66 = .ok (.goto (-43), 3) := by decide +kernel
theorem d_Key_power_36 : decode prog_7_method_5_code 36 = .ok (.lload_n 3, 1) := by decide +kernel
theorem d_Key_power_37 : decode prog_7_method_5_code 37 = .ok (.lload 5, 2) := by decide +kernel
theorem d_Key_power_39 : decode prog_7_method_5_code 39 = .ok (.lmul, 1) := by decide +kernel
theorem d_Key_power_40 : decode prog_7_method_5_code 40 = .ok (.aload_n 0, 1) := by decide +kernel
theorem d_Key_power_41 : decode prog_7_method_5_code 41 = .ok (.getfield 15, 3) := by decide +kernel
theorem d_Key_power_44 : decode prog_7_method_5_code 44 = .ok (.i2l, 1) := by decide +kernel
theorem d_Key_power_45 : decode prog_7_method_5_code 45 = .ok (.lrem, 1) := by decide +kernel
theorem d_Key_power_46 : decode prog_7_method_5_code 46 = .ok (.lstore_n 3, 1) := by decide +kernel
theorem g_Key_power_23 {X : cd_E} {kc ks : Nat} {h : cd_H} {Q : Option Value → cd_H → Prop} {a0 : Nat} {v3 : Int64} {v5 : Int64} {v7 : Int32} (F : cc_ok h) (H : (((v7 ≤ 0) → (Q (some (.int v3.toInt32)) h)) ∧ ((¬ v7 ≤ 0) → ((((¬ (v7 &&& 1) = 1) → ((cd_k h a0 = some (.inl 4)) ∧ ((¬ ((cd_i h a0 1).toInt64) = 0) ∧ (cd_W X m_Key_power kc ks 23 [some (.ref a0), none, none, some (.long v3), none, some (.long ((v5 * v5) - (v5 * v5) / (cd_i h a0 1).toInt64 * (cd_i h a0 1).toInt64)), none, some (.int (v7 >>> (1 &&& 31)))] [] h Q)))) ∧ (((v7 &&& 1) = 1) → ((cd_k h a0 = some (.inl 4)) ∧ ((¬ ((cd_i h a0 1).toInt64) = 0) ∧ (cd_W X m_Key_power kc ks 23 [some (.ref a0), none, none, some (.long ((v3 * v5) - (v3 * v5) / (cd_i h a0 1).toInt64 * (cd_i h a0 1).toInt64)), none, some (.long ((v5 * v5) - (v5 * v5) / (cd_i h a0 1).toInt64 * (cd_i h a0 1).toInt64)), none, some (.int (v7 >>> (1 &&& 31)))] [] h Q))))))))) : cd_W X m_Key_power kc ks 23 [some (.ref a0), none, none, some (.long v3), none, some (.long v5), none, some (.int v7)] [] h Q := by
  refine cd_iload (i := 7) d_Key_power_23 rfl ?_
  refine cd_if_le (tgt := 69) d_Key_power_25 (by decide) (fun t1 => ?_) (fun t1 => ?_)
  · replace H := H.1 t1
    refine cd_lload_n (i := 3) d_Key_power_69 rfl rfl ?_
    refine cd_l2i d_Key_power_70 ?_
    exact cd_iret d_Key_power_71 rfl rfl H
  · replace H := H.2 t1
    refine cd_iload (i := 7) d_Key_power_28 rfl ?_
    refine cd_iconst (v := 1) d_Key_power_30 (by decide) ?_
    refine cd_iand d_Key_power_31 ?_
    refine cd_iconst (v := 1) d_Key_power_32 (by decide) ?_
    refine cd_icmp_ne (tgt := 47) d_Key_power_33 (by decide) (fun t2 => ?_) (fun t2 => ?_)
    · replace H := H.1 t2
      refine cd_lload (i := 5) d_Key_power_47 rfl ?_
      refine cd_lload (i := 5) d_Key_power_49 rfl ?_
      refine cd_lmul d_Key_power_51 ?_
      refine cd_aload_n (i := 0) (v := .ref a0) d_Key_power_52 rfl rfl (cd_isr_ref _) ?_
      obtain ⟨c3, H⟩ := H
      refine cd_get (v := .int (cd_i h a0 1)) d_Key_power_53 fl_Key_15 c3 rfl ?_
      refine cd_i2l d_Key_power_56 ?_
      obtain ⟨c4, H⟩ := H
      refine cd_lrem d_Key_power_57 c4 ?_
      refine cd_lstore (i := 5) d_Key_power_58 (by decide) ?_
      show cd_W X m_Key_power kc ks 60 [some (.ref a0), none, none, some (.long v3), none, some (.long ((v5 * v5) - (v5 * v5) / (cd_i h a0 1).toInt64 * (cd_i h a0 1).toInt64)), none, some (.int v7)] [] h Q
      refine cd_iload (i := 7) d_Key_power_60 rfl ?_
      refine cd_iconst (v := 1) d_Key_power_62 (by decide) ?_
      refine cd_ishr d_Key_power_63 ?_
      refine cd_istore (i := 7) d_Key_power_64 (by decide) ?_
      show cd_W X m_Key_power kc ks 66 [some (.ref a0), none, none, some (.long v3), none, some (.long ((v5 * v5) - (v5 * v5) / (cd_i h a0 1).toInt64 * (cd_i h a0 1).toInt64)), none, some (.int (v7 >>> (1 &&& 31)))] [] h Q
      refine cd_goto (tgt := 23) d_Key_power_66 (by decide) ?_
      exact H
    · replace H := H.2 t2
      refine cd_lload_n (i := 3) d_Key_power_36 rfl rfl ?_
      refine cd_lload (i := 5) d_Key_power_37 rfl ?_
      refine cd_lmul d_Key_power_39 ?_
      refine cd_aload_n (i := 0) (v := .ref a0) d_Key_power_40 rfl rfl (cd_isr_ref _) ?_
      obtain ⟨c5, H⟩ := H
      refine cd_get (v := .int (cd_i h a0 1)) d_Key_power_41 fl_Key_15 c5 rfl ?_
      refine cd_i2l d_Key_power_44 ?_
      obtain ⟨c6, H⟩ := H
      refine cd_lrem d_Key_power_45 c6 ?_
      refine cd_lstore_n (i := 3) d_Key_power_46 rfl (by decide) ?_
      show cd_W X m_Key_power kc ks 47 [some (.ref a0), none, none, some (.long ((v3 * v5) - (v3 * v5) / (cd_i h a0 1).toInt64 * (cd_i h a0 1).toInt64)), none, some (.long v5), none, some (.int v7)] [] h Q
      refine cd_lload (i := 5) d_Key_power_47 rfl ?_
      refine cd_lload (i := 5) d_Key_power_49 rfl ?_
      refine cd_lmul d_Key_power_51 ?_
      refine cd_aload_n (i := 0) (v := .ref a0) d_Key_power_52 rfl rfl (cd_isr_ref _) ?_
      refine cd_get (v := .int (cd_i h a0 1)) d_Key_power_53 fl_Key_15 c5 rfl ?_
      refine cd_i2l d_Key_power_56 ?_
      refine cd_lrem d_Key_power_57 c6 ?_
      refine cd_lstore (i := 5) d_Key_power_58 (by decide) ?_
      show cd_W X m_Key_power kc ks 60 [some (.ref a0), none, none, some (.long ((v3 * v5) - (v3 * v5) / (cd_i h a0 1).toInt64 * (cd_i h a0 1).toInt64)), none, some (.long ((v5 * v5) - (v5 * v5) / (cd_i h a0 1).toInt64 * (cd_i h a0 1).toInt64)), none, some (.int v7)] [] h Q
      refine cd_iload (i := 7) d_Key_power_60 rfl ?_
      refine cd_iconst (v := 1) d_Key_power_62 (by decide) ?_
      refine cd_ishr d_Key_power_63 ?_
      refine cd_istore (i := 7) d_Key_power_64 (by decide) ?_
      show cd_W X m_Key_power kc ks 66 [some (.ref a0), none, none, some (.long ((v3 * v5) - (v3 * v5) / (cd_i h a0 1).toInt64 * (cd_i h a0 1).toInt64)), none, some (.long ((v5 * v5) - (v5 * v5) / (cd_i h a0 1).toInt64 * (cd_i h a0 1).toInt64)), none, some (.int (v7 >>> (1 &&& 31)))] [] h Q
      refine cd_goto (tgt := 23) d_Key_power_66 (by decide) ?_
      exact H

abbrev m_Not_init : cd_M := (⟨"CertificateDesk$Notation", "<init>", "()V"⟩, prog_9_method_1_code, 1, none, 1, 20)
theorem d_Not_init_0 : decode prog_9_method_1_code 0 = .ok (.aload_n 0, 1) := by decide +kernel
theorem d_Not_init_1 : decode prog_9_method_1_code 1 = .ok (.invokespecial 3, 3) := by decide +kernel
theorem kw_1_71 : (Jvm.Cond.methodLink "CertificateDesk$Notation" (3 : Nat) ({ cls := "java/lang/Object", name := "<init>", desc := "()V" } : Jvm.MethodName)) ∈ cd_tbl := tb_1 (List.mem_of_getElem? (i := 71) (by decide +kernel)) (by decide)
theorem d_Not_init_4 : decode prog_9_method_1_code 4 = .ok (.aload_n 0, 1) := by decide +kernel
theorem d_Not_init_5 : decode prog_9_method_1_code 5 = .ok (.bipush 96, 2) := by decide +kernel
theorem d_Not_init_7 : decode prog_9_method_1_code 7 = .ok (.newarray .char, 2) := by decide +kernel
theorem kw_1_79 : (Jvm.Cond.arrayClass Jvm.ClassFile.FieldType.char) ∈ cd_tbl := tb_1 (List.mem_of_getElem? (i := 79) (by decide +kernel)) (by decide)
theorem d_Not_init_9 : decode prog_9_method_1_code 9 = .ok (.putfield 11, 3) := by decide +kernel
theorem kw_1_72 : (Jvm.Cond.fieldLink "CertificateDesk$Notation" (11 : Nat) "CertificateDesk$Notation" "characters" "[C") ∈ cd_tbl := tb_1 (List.mem_of_getElem? (i := 72) (by decide +kernel)) (by decide)
theorem kw_1_74 : (Jvm.Cond.laysFinal "CertificateDesk$Notation" "CertificateDesk$Notation" "characters" "[C") ∈ cd_tbl := tb_1 (List.mem_of_getElem? (i := 74) (by decide +kernel)) (by decide)
theorem kw_1_76 : (Jvm.Cond.lays "CertificateDesk$Notation" "CertificateDesk$Notation" "length" "I") ∈ cd_tbl := tb_1 (List.mem_of_getElem? (i := 76) (by decide +kernel)) (by decide)
theorem kw_1_67 : (Jvm.Cond.instantiable "CertificateDesk$Notation" (2 : Nat)) ∈ cd_tbl := tb_1 (List.mem_of_getElem? (i := 67) (by decide +kernel)) (by decide)
theorem kw_1_3 : (Jvm.Cond.initialized "CertificateDesk$Notation") ∈ cd_tbl := tb_1 (List.mem_of_getElem? (i := 3) (by decide +kernel)) (by decide)
theorem cl_6 : cd_CL 6 2 := ⟨_, rfl, List.forall_mem_cons.mpr ⟨kw_1_74, List.forall_mem_cons.mpr ⟨kw_1_76, fun _ h => absurd h List.not_mem_nil⟩⟩, by decide +kernel, by decide +kernel, kw_1_67, kw_1_3, by decide +kernel⟩
theorem fp_Not_init_11 {X : cd_E} : cd_FP X m_Not_init 11 6 0 (.array .char) := cd_FP.of cl_6 rfl rfl (by decide) kw_1_72 (Or.inl rfl) (Or.inr ⟨rfl, rfl, rfl⟩)
theorem d_Not_init_12 : decode prog_9_method_1_code 12 = .ok (.aload_n 0, 1) := by decide +kernel
theorem d_Not_init_13 : decode prog_9_method_1_code 13 = .ok (.iconst 0, 1) := by decide +kernel
theorem d_Not_init_14 : decode prog_9_method_1_code 14 = .ok (.putfield 15, 3) := by decide +kernel
theorem kw_1_73 : (Jvm.Cond.fieldLink "CertificateDesk$Notation" (15 : Nat) "CertificateDesk$Notation" "length" "I") ∈ cd_tbl := tb_1 (List.mem_of_getElem? (i := 73) (by decide +kernel)) (by decide)
theorem fp_Not_init_15 {X : cd_E} : cd_FP X m_Not_init 15 6 1 .int := cd_FP.of cl_6 rfl rfl (by decide) kw_1_73 (Or.inl rfl) (Or.inl rfl)
theorem d_Not_init_17 : decode prog_9_method_1_code 17 = .ok (.return_, 1) := by decide +kernel
theorem g_Not_init {X : cd_E} {kc ks : Nat} {h : cd_H} {Q : Option Value → cd_H → Prop} {a0 : Nat} (H : (cd_k (cd_new h (.inr (1, 96))) a0 = some (.inl 6)) ∧ ((64 ≤ a0) ∧ (Q none (cd_si (cd_sr (cd_new h (.inr (1, 96))) a0 0 (some (cd_n h))) a0 1 0)))) : cd_W X m_Not_init (kc + 1) (ks + 96) 0 [some (.ref a0)] [] h Q := by
  refine cd_aload_n (i := 0) (v := .ref a0) d_Not_init_0 rfl rfl (cd_isr_ref _) ?_
  refine cd_objInit d_Not_init_1 kw_1_71 kw_1_35 kw_1_36 (by decide) (by decide) (Nat.le_of_ble_eq_true rfl) ?_
  refine cd_aload_n (i := 0) (v := .ref a0) d_Not_init_4 rfl rfl (cd_isr_ref _) ?_
  refine cd_bipush (v := 96) d_Not_init_5 (by decide) ?_
  refine cd_newa (z := 1) (N := 96) (kc := (kc + 0)) (ks := (ks + 0)) d_Not_init_7 rfl kw_1_79 rfl (by decide) (by decide) (by decide) ?_
  obtain ⟨c1, H⟩ := H
  obtain ⟨c2, H⟩ := H
  refine cd_putR (o := (some (cd_n h))) d_Not_init_9 fp_Not_init_11 (Or.inr ⟨_, rfl⟩) c1 c2 ?_
  refine cd_aload_n (i := 0) (v := .ref a0) d_Not_init_12 rfl rfl (cd_isr_ref _) ?_
  refine cd_iconst (v := 0) d_Not_init_13 (by decide) ?_
  refine cd_putI d_Not_init_14 fp_Not_init_15 (fun _ _ _ => rfl) c1 c2 rfl rfl ?_
  exact cd_vret d_Not_init_17 rfl H

abbrev m_Not_append : cd_M := (⟨"CertificateDesk$Notation", "append", "(C)Z"⟩, prog_9_method_2_code, 2, some .boolean, 1, 20)
theorem d_Not_append_0 : decode prog_9_method_2_code 0 = .ok (.aload_n 0, 1) := by decide +kernel
theorem d_Not_append_1 : decode prog_9_method_2_code 1 = .ok (.getfield 15, 3) := by decide +kernel
theorem fl_Not_15 {X : cd_E} : cd_FL X "CertificateDesk$Notation" 15 6 1 .int := cd_FL.of rfl rfl (by decide) kw_1_73 (Or.inl rfl)
theorem d_Not_append_4 : decode prog_9_method_2_code 4 = .ok (.bipush 96, 2) := by decide +kernel
theorem d_Not_append_6 : decode prog_9_method_2_code 6 = .ok (.if_icmp .ge 15, 3) := by decide +kernel
theorem d_Not_append_21 : decode prog_9_method_2_code 21 = .ok (.iconst 0, 1) := by decide +kernel
theorem d_Not_append_22 : decode prog_9_method_2_code 22 = .ok (.ireturn, 1) := by decide +kernel
theorem d_Not_append_9 : decode prog_9_method_2_code 9 = .ok (.iload_n 1, 1) := by decide +kernel
theorem d_Not_append_10 : decode prog_9_method_2_code 10 = .ok (.bipush 32, 2) := by decide +kernel
theorem d_Not_append_12 : decode prog_9_method_2_code 12 = .ok (.if_icmp .lt 9, 3) := by decide +kernel
theorem d_Not_append_15 : decode prog_9_method_2_code 15 = .ok (.iload_n 1, 1) := by decide +kernel
theorem d_Not_append_16 : decode prog_9_method_2_code 16 = .ok (.bipush 126, 2) := by decide +kernel
theorem d_Not_append_18 : decode prog_9_method_2_code 18 = .ok (.if_icmp .le 5, 3) := by decide +kernel
theorem d_Not_append_23 : decode prog_9_method_2_code 23 = .ok (.aload_n 0, 1) := by decide +kernel
theorem d_Not_append_24 : decode prog_9_method_2_code 24 = .ok (.getfield 11, 3) := by decide +kernel
theorem fl_Not_11 {X : cd_E} : cd_FL X "CertificateDesk$Notation" 11 6 0 (.array .char) := cd_FL.of rfl rfl (by decide) kw_1_72 (Or.inl rfl)
theorem d_Not_append_27 : decode prog_9_method_2_code 27 = .ok (.aload_n 0, 1) := by decide +kernel
theorem d_Not_append_28 : decode prog_9_method_2_code 28 = .ok (.getfield 15, 3) := by decide +kernel
theorem d_Not_append_31 : decode prog_9_method_2_code 31 = .ok (.iload_n 1, 1) := by decide +kernel
theorem d_Not_append_32 : decode prog_9_method_2_code 32 = .ok (.castore, 1) := by decide +kernel
theorem d_Not_append_33 : decode prog_9_method_2_code 33 = .ok (.aload_n 0, 1) := by decide +kernel
theorem d_Not_append_34 : decode prog_9_method_2_code 34 = .ok (.dup, 1) := by decide +kernel
theorem d_Not_append_35 : decode prog_9_method_2_code 35 = .ok (.getfield 15, 3) := by decide +kernel
theorem d_Not_append_38 : decode prog_9_method_2_code 38 = .ok (.iconst 1, 1) := by decide +kernel
theorem d_Not_append_39 : decode prog_9_method_2_code 39 = .ok (.iadd, 1) := by decide +kernel
theorem d_Not_append_40 : decode prog_9_method_2_code 40 = .ok (.putfield 15, 3) := by decide +kernel
theorem fp_Not_append_15 {X : cd_E} : cd_FP X m_Not_append 15 6 1 .int := cd_FP.of cl_6 rfl rfl (by decide) kw_1_73 (Or.inl rfl) (Or.inl rfl)
theorem d_Not_append_43 : decode prog_9_method_2_code 43 = .ok (.iconst 1, 1) := by decide +kernel
theorem d_Not_append_44 : decode prog_9_method_2_code 44 = .ok (.ireturn, 1) := by decide +kernel
theorem g_Not_append {X : cd_E} {kc ks : Nat} {h : cd_H} {Q : Option Value → cd_H → Prop} {p1 : Int32} (F : cc_ok h) (H : (((96 ≤ (cd_i h 71 1)) → (Q (some (.int 0)) h)) ∧ ((¬ 96 ≤ (cd_i h 71 1)) → ((((p1 < 32) → (Q (some (.int 0)) h)) ∧ ((¬ p1 < 32) → ((((p1 ≤ 126) → ((vp_in (cd_i h 71 1) 96) ∧ (Q (some (.int 1)) (cd_si (cd_si h 72 (cd_i h 71 1).toNatClampNeg (vp_nar .char p1)) 71 1 ((cd_i (cd_si h 72 (cd_i h 71 1).toNatClampNeg (vp_nar .char p1)) 71 1) + 1))))) ∧ ((¬ p1 ≤ 126) → (Q (some (.int 0)) h)))))))))) : cd_W X m_Not_append kc ks 0 [some (.ref 71), some (.int p1)] [] h Q := by
  refine cd_aload_n (i := 0) (v := .ref 71) d_Not_append_0 rfl rfl (cd_isr_ref _) ?_
  refine cd_get (v := .int (cd_i h 71 1)) d_Not_append_1 fl_Not_15 (cc_k71 F) rfl ?_
  refine cd_bipush (v := 96) d_Not_append_4 (by decide) ?_
  refine cd_icmp_ge (tgt := 21) d_Not_append_6 (by decide) (fun t1 => ?_) (fun t1 => ?_)
  · replace H := H.1 t1
    refine cd_iconst (v := 0) d_Not_append_21 (by decide) ?_
    exact cd_iret d_Not_append_22 rfl rfl H
  · replace H := H.2 t1
    refine cd_iload_n (i := 1) d_Not_append_9 rfl rfl ?_
    refine cd_bipush (v := 32) d_Not_append_10 (by decide) ?_
    refine cd_icmp_lt (tgt := 21) d_Not_append_12 (by decide) (fun t2 => ?_) (fun t2 => ?_)
    · replace H := H.1 t2
      refine cd_iconst (v := 0) d_Not_append_21 (by decide) ?_
      exact cd_iret d_Not_append_22 rfl rfl H
    · replace H := H.2 t2
      refine cd_iload_n (i := 1) d_Not_append_15 rfl rfl ?_
      refine cd_bipush (v := 126) d_Not_append_16 (by decide) ?_
      refine cd_icmp_le (tgt := 23) d_Not_append_18 (by decide) (fun t3 => ?_) (fun t3 => ?_)
      · replace H := H.1 t3
        refine cd_aload_n (i := 0) (v := .ref 71) d_Not_append_23 rfl rfl (cd_isr_ref _) ?_
        refine cd_get (v := .ref 72) d_Not_append_24 fl_Not_11 (cc_k71 F) (congrArg va_rf (cc_r71_0 F)) ?_
        refine cd_aload_n (i := 0) (v := .ref 71) d_Not_append_27 rfl rfl (cd_isr_ref _) ?_
        refine cd_get (v := .int (cd_i h 71 1)) d_Not_append_28 fl_Not_15 (cc_k71 F) rfl ?_
        refine cd_iload_n (i := 1) d_Not_append_31 rfl rfl ?_
        obtain ⟨c4, H⟩ := H
        refine cd_casto (j := (cd_i h 71 1)) d_Not_append_32 rfl (cc_k72 F) (by decide) c4 ?_
        refine cd_aload_n (i := 0) (v := .ref 71) d_Not_append_33 rfl rfl (cd_isr_ref _) ?_
        refine cd_dup d_Not_append_34 rfl ?_
        refine cd_get (v := .int (cd_i (cd_si h 72 (cd_i h 71 1).toNatClampNeg (vp_nar .char p1)) 71 1)) d_Not_append_35 fl_Not_15 (cc_k71 F) rfl ?_
        refine cd_iconst (v := 1) d_Not_append_38 (by decide) ?_
        refine cd_iadd d_Not_append_39 ?_
        refine cd_putI d_Not_append_40 fp_Not_append_15 (fun _ _ _ => rfl) (cc_k71 F) (by decide) rfl rfl ?_
        refine cd_iconst (v := 1) d_Not_append_43 (by decide) ?_
        exact cd_iret d_Not_append_44 rfl rfl H
      · replace H := H.2 t3
        refine cd_iconst (v := 0) d_Not_append_21 (by decide) ?_
        exact cd_iret d_Not_append_22 rfl rfl H

abbrev m_Not_clear : cd_M := (⟨"CertificateDesk$Notation", "clear", "()V"⟩, prog_9_method_3_code, 1, none, 1, 20)
theorem d_Not_clear_0 : decode prog_9_method_3_code 0 = .ok (.aload_n 0, 1) := by decide +kernel
theorem d_Not_clear_1 : decode prog_9_method_3_code 1 = .ok (.iconst 0, 1) := by decide +kernel
theorem d_Not_clear_2 : decode prog_9_method_3_code 2 = .ok (.putfield 15, 3) := by decide +kernel
theorem fp_Not_clear_15 {X : cd_E} : cd_FP X m_Not_clear 15 6 1 .int := cd_FP.of cl_6 rfl rfl (by decide) kw_1_73 (Or.inl rfl) (Or.inl rfl)
theorem d_Not_clear_5 : decode prog_9_method_3_code 5 = .ok (.return_, 1) := by decide +kernel
theorem g_Not_clear {X : cd_E} {kc ks : Nat} {h : cd_H} {Q : Option Value → cd_H → Prop}  (F : cc_ok h) (H : Q none (cd_si h 71 1 0)) : cd_W X m_Not_clear kc ks 0 [some (.ref 71)] [] h Q := by
  refine cd_aload_n (i := 0) (v := .ref 71) d_Not_clear_0 rfl rfl (cd_isr_ref _) ?_
  refine cd_iconst (v := 0) d_Not_clear_1 (by decide) ?_
  refine cd_putI d_Not_clear_2 fp_Not_clear_15 (fun _ _ _ => rfl) (cc_k71 F) (by decide) rfl rfl ?_
  exact cd_vret d_Not_clear_5 rfl H

abbrev m_Not_digest : cd_M := (⟨"CertificateDesk$Notation", "digest", "()I"⟩, prog_9_method_4_code, 3, some .int, 2, 41)
theorem d_Not_digest_0 : decode prog_9_method_4_code 0 = .ok (.bipush 7, 2) := by decide +kernel
theorem d_Not_digest_2 : decode prog_9_method_4_code 2 = .ok (.istore_n 1, 1) := by decide +kernel
theorem d_Not_digest_3 : decode prog_9_method_4_code 3 = .ok (.iconst 0, 1) := by decide +kernel
theorem d_Not_digest_4 : decode prog_9_method_4_code 4 = .ok (.istore_n 2, 1) := by decide +kernel
theorem g_Not_digest {X : cd_E} {kc ks : Nat} {h : cd_H} {Q : Option Value → cd_H → Prop}  (F : cc_ok h) (H : cd_W X m_Not_digest kc ks 5 [some (.ref 71), some (.int 7), some (.int 0)] [] h Q) : cd_W X m_Not_digest kc ks 0 [some (.ref 71), none, none] [] h Q := by
  refine cd_bipush (v := 7) d_Not_digest_0 (by decide) ?_
  refine cd_istore_n (i := 1) d_Not_digest_2 rfl (by decide) ?_
  show cd_W X m_Not_digest kc ks 3 [some (.ref 71), some (.int 7), none] [] h Q
  refine cd_iconst (v := 0) d_Not_digest_3 (by decide) ?_
  refine cd_istore_n (i := 2) d_Not_digest_4 rfl (by decide) ?_
  show cd_W X m_Not_digest kc ks 5 [some (.ref 71), some (.int 7), some (.int 0)] [] h Q
  exact H

theorem d_Not_digest_5 : decode prog_9_method_4_code 5 = .ok (.iload_n 2, 1) := by decide +kernel
theorem d_Not_digest_6 : decode prog_9_method_4_code 6 = .ok (.aload_n 0, 1) := by decide +kernel
theorem d_Not_digest_7 : decode prog_9_method_4_code 7 = .ok (.getfield 15, 3) := by decide +kernel
theorem d_Not_digest_10 : decode prog_9_method_4_code 10 = .ok (.if_icmp .ge 20, 3) := by decide +kernel
theorem d_Not_digest_30 : decode prog_9_method_4_code 30 = .ok (.iload_n 1, 1) := by decide +kernel
theorem d_Not_digest_31 : decode prog_9_method_4_code 31 = .ok (.ireturn, 1) := by decide +kernel
theorem d_Not_digest_13 : decode prog_9_method_4_code 13 = .ok (.iload_n 1, 1) := by decide +kernel
theorem d_Not_digest_14 : decode prog_9_method_4_code 14 = .ok (.aload_n 0, 1) := by decide +kernel
theorem d_Not_digest_15 : decode prog_9_method_4_code 15 = .ok (.getfield 11, 3) := by decide +kernel
theorem d_Not_digest_18 : decode prog_9_method_4_code 18 = .ok (.iload_n 2, 1) := by decide +kernel
theorem d_Not_digest_19 : decode prog_9_method_4_code 19 = .ok (.caload, 1) := by decide +kernel
theorem d_Not_digest_20 : decode prog_9_method_4_code 20 = .ok (.invokestatic 21, 3) := by decide +kernel
theorem kw_1_221 : (Jvm.Cond.methodLink "CertificateDesk$Notation" (21 : Nat) ({ cls := "CertificateDesk$Digest", name := "with", desc := "(II)I" } : Jvm.MethodName)) ∈ cd_tbl := tb_1 (List.mem_of_getElem? (i := 221) (by decide +kernel)) (by decide)
theorem ca_Not_digest_21 {X : cd_E} : cd_CS X m_Not_digest m_Dig_with 21 2 := ⟨⟨by decide, kw_1_223, kw_1_11, ⟨by decide, by decide, by decide +kernel⟩, by decide, by decide⟩, kw_1_222, (Or.inl kw_1_221)⟩
theorem d_Not_digest_23 : decode prog_9_method_4_code 23 = .ok (.istore_n 1, 1) := by decide +kernel
theorem d_Not_digest_24 : decode prog_9_method_4_code 24 = .ok (.iinc 2 1, 3) := by decide +kernel
theorem d_Not_digest_27 : decode prog_9_method_4_code 27 = .ok (.goto (-22), 3) := by decide +kernel
theorem g_Not_digest_5 {X : cd_E} {kc ks : Nat} {h : cd_H} {Q : Option Value → cd_H → Prop} {v1 : Int32} {v2 : Int32} (F : cc_ok h) (H : ((((cd_i h 71 1) ≤ v2) → (Q (some (.int v1)) h)) ∧ ((¬ (cd_i h 71 1) ≤ v2) → ((vp_in v2 96) ∧ (cd_W X m_Dig_with 0 0 0 [some (.int v1), some (.int (cd_i h 72 v2.toNatClampNeg))] [] h (fun r3 h4 => ∃ x5 : Int32, r3 = some (.int x5) ∧ ((cc_ok h4) ∧ (cd_W X m_Not_digest kc ks 5 [some (.ref 71), some (.int x5), some (.int (v2 + 1))] [] h4 Q)))))))) : cd_W X m_Not_digest kc ks 5 [some (.ref 71), some (.int v1), some (.int v2)] [] h Q := by
  refine cd_iload_n (i := 2) d_Not_digest_5 rfl rfl ?_
  refine cd_aload_n (i := 0) (v := .ref 71) d_Not_digest_6 rfl rfl (cd_isr_ref _) ?_
  refine cd_get (v := .int (cd_i h 71 1)) d_Not_digest_7 fl_Not_15 (cc_k71 F) rfl ?_
  refine cd_icmp_ge (tgt := 30) d_Not_digest_10 (by decide) (fun t1 => ?_) (fun t1 => ?_)
  · replace H := H.1 t1
    refine cd_iload_n (i := 1) d_Not_digest_30 rfl rfl ?_
    exact cd_iret d_Not_digest_31 rfl rfl H
  · replace H := H.2 t1
    refine cd_iload_n (i := 1) d_Not_digest_13 rfl rfl ?_
    refine cd_aload_n (i := 0) (v := .ref 71) d_Not_digest_14 rfl rfl (cd_isr_ref _) ?_
    refine cd_get (v := .ref 72) d_Not_digest_15 fl_Not_11 (cc_k71 F) (congrArg va_rf (cc_r71_0 F)) ?_
    refine cd_iload_n (i := 2) d_Not_digest_18 rfl rfl ?_
    obtain ⟨c2, H⟩ := H
    refine cd_cald (j := v2) d_Not_digest_19 rfl (cc_k72 F) c2 ?_
    refine cd_callS (kc := kc) (ks := ks) (kc' := 0) (ks' := 0) (As := [.int v1, .int (cd_i h 72 v2.toNatClampNeg)]) (S := []) d_Not_digest_20 ca_Not_digest_21 rfl (Nat.le_of_ble_eq_true rfl) (Nat.le_of_ble_eq_true rfl) ?_
    refine cd_W.mono (fun r3 h4 H => ?_) H
    obtain ⟨x5, rfl, H⟩ := H
    obtain ⟨F6, H⟩ := H
    show cd_W X m_Not_digest kc ks 23 [some (.ref 71), some (.int v1), some (.int v2)] [.int x5] h4 Q
    refine cd_istore_n (i := 1) d_Not_digest_23 rfl (by decide) ?_
    show cd_W X m_Not_digest kc ks 24 [some (.ref 71), some (.int x5), some (.int v2)] [] h4 Q
    refine cd_iinc (i := 2) (v := (v2 + 1)) d_Not_digest_24 rfl (cd_inc1 _) (by decide) ?_
    show cd_W X m_Not_digest kc ks 27 [some (.ref 71), some (.int x5), some (.int (v2 + 1))] [] h4 Q
    refine cd_goto (tgt := 5) d_Not_digest_27 (by decide) ?_
    exact H

abbrev m_Not_isObject : cd_M := (⟨"CertificateDesk$Notation", "isObject", "()Z"⟩, prog_9_method_5_code, 1, some .boolean, 19, 1522)
theorem d_Not_isObject_0 : decode prog_9_method_5_code 0 = .ok (.aload_n 0, 1) := by decide +kernel
theorem d_Not_isObject_1 : decode prog_9_method_5_code 1 = .ok (.iconst 0, 1) := by decide +kernel
theorem d_Not_isObject_2 : decode prog_9_method_5_code 2 = .ok (.bipush 123, 2) := by decide +kernel
theorem d_Not_isObject_4 : decode prog_9_method_5_code 4 = .ok (.invokevirtual 25, 3) := by decide +kernel
abbrev m_Not_has : cd_M := (⟨"CertificateDesk$Notation", "has", "(IC)Z"⟩, prog_9_method_14_code, 3, some .boolean, 1, 20)
theorem kw_2_42 : (Jvm.Cond.methodLink "CertificateDesk$Notation" (25 : Nat) ({ cls := "CertificateDesk$Notation", name := "has", desc := "(IC)Z" } : Jvm.MethodName)) ∈ cd_tbl := tb_2 (List.mem_of_getElem? (i := 42) (by decide +kernel)) (by decide)
theorem kw_2_45 : (Jvm.Cond.code ({ cls := "CertificateDesk$Notation", name := "has", desc := "(IC)Z" } : Jvm.MethodName) prog_9_method_14_code (3 : Nat) (Option.some Jvm.ClassFile.FieldType.boolean)) ∈ cd_tbl := tb_2 (List.mem_of_getElem? (i := 45) (by decide +kernel)) (by decide)
theorem kw_2_44 : (Jvm.Cond.instanceMethod ({ cls := "CertificateDesk$Notation", name := "has", desc := "(IC)Z" } : Jvm.MethodName)) ∈ cd_tbl := tb_2 (List.mem_of_getElem? (i := 44) (by decide +kernel)) (by decide)
theorem kp_6 : Cond.selects "CertificateDesk$Notation" ⟨"CertificateDesk$Notation", "has", "(IC)Z"⟩ ⟨"CertificateDesk$Notation", "has", "(IC)Z"⟩ ∈ cd_tbl := cd_sel (List.mem_of_getElem? (i := 6) (by decide +kernel)) (by decide)
theorem ca_Not_isObject_25 {X : cd_E} : cd_CV X m_Not_isObject m_Not_has 25 2 6 := ⟨⟨by decide, kw_2_45, kw_1_3, ⟨by decide, by decide, by decide +kernel⟩, by decide, by decide⟩, ⟨_, rfl, rfl⟩, kw_2_44, kp_6, (Or.inl kw_2_42)⟩
theorem d_Not_isObject_7 : decode prog_9_method_5_code 7 = .ok (.ifCond .eq 20, 3) := by decide +kernel
theorem d_Not_isObject_27 : decode prog_9_method_5_code 27 = .ok (.iconst 0, 1) := by decide +kernel
theorem d_Not_isObject_28 : decode prog_9_method_5_code 28 = .ok (.ireturn, 1) := by decide +kernel
theorem d_Not_isObject_10 : decode prog_9_method_5_code 10 = .ok (.aload_n 0, 1) := by decide +kernel
theorem d_Not_isObject_11 : decode prog_9_method_5_code 11 = .ok (.iconst 0, 1) := by decide +kernel
theorem d_Not_isObject_12 : decode prog_9_method_5_code 12 = .ok (.iconst 0, 1) := by decide +kernel
theorem d_Not_isObject_13 : decode prog_9_method_5_code 13 = .ok (.invokevirtual 29, 3) := by decide +kernel
abbrev m_Not_endOfValue (d : Nat) : cd_M := (⟨"CertificateDesk$Notation", "endOfValue", "(II)I"⟩, prog_9_method_16_code, 3, some .int, 2 * d + 6, 200 * d + 300)
theorem kw_2_46 : (Jvm.Cond.methodLink "CertificateDesk$Notation" (29 : Nat) ({ cls := "CertificateDesk$Notation", name := "endOfValue", desc := "(II)I" } : Jvm.MethodName)) ∈ cd_tbl := tb_2 (List.mem_of_getElem? (i := 46) (by decide +kernel)) (by decide)
theorem kw_2_49 : (Jvm.Cond.code ({ cls := "CertificateDesk$Notation", name := "endOfValue", desc := "(II)I" } : Jvm.MethodName) prog_9_method_16_code (3 : Nat) (Option.some Jvm.ClassFile.FieldType.int)) ∈ cd_tbl := tb_2 (List.mem_of_getElem? (i := 49) (by decide +kernel)) (by decide)
theorem kw_2_48 : (Jvm.Cond.instanceMethod ({ cls := "CertificateDesk$Notation", name := "endOfValue", desc := "(II)I" } : Jvm.MethodName)) ∈ cd_tbl := tb_2 (List.mem_of_getElem? (i := 48) (by decide +kernel)) (by decide)
theorem kp_7 : Cond.selects "CertificateDesk$Notation" ⟨"CertificateDesk$Notation", "endOfValue", "(II)I"⟩ ⟨"CertificateDesk$Notation", "endOfValue", "(II)I"⟩ ∈ cd_tbl := cd_sel (List.mem_of_getElem? (i := 7) (by decide +kernel)) (by decide)
theorem ca_Not_isObject_29 {X : cd_E} : cd_CV X m_Not_isObject (m_Not_endOfValue 6) 29 2 6 := ⟨⟨by decide, kw_2_49, kw_1_3, ⟨by decide, by decide, by decide +kernel⟩, by decide, by decide⟩, ⟨_, rfl, rfl⟩, kw_2_48, kp_7, (Or.inl kw_2_46)⟩
theorem d_Not_isObject_16 : decode prog_9_method_5_code 16 = .ok (.aload_n 0, 1) := by decide +kernel
theorem d_Not_isObject_17 : decode prog_9_method_5_code 17 = .ok (.getfield 15, 3) := by decide +kernel
theorem d_Not_isObject_20 : decode prog_9_method_5_code 20 = .ok (.if_icmp .ne 7, 3) := by decide +kernel
theorem d_Not_isObject_23 : decode prog_9_method_5_code 23 = .ok (.iconst 1, 1) := by decide +kernel
theorem d_Not_isObject_24 : decode prog_9_method_5_code 24 = .ok (.goto 4, 3) := by decide +kernel
theorem g_Not_isObject {X : cd_E} {kc ks : Nat} {h : cd_H} {Q : Option Value → cd_H → Prop}  (F : cc_ok h) (H : cd_W X m_Not_has 0 0 0 [some (.ref 71), some (.int 0), some (.int 123)] [] h (fun r1 h2 => ∃ x3 : Int32, r1 = some (.int x3) ∧ ((cc_ok h2) ∧ ((((x3 = 0) → (Q (some (.int 0)) h2)) ∧ ((¬ x3 = 0) → (cd_W X (m_Not_endOfValue 6) 0 0 0 [some (.ref 71), some (.int 0), some (.int 0)] [] h2 (fun r6 h7 => ∃ x8 : Int32, r6 = some (.int x8) ∧ ((cc_ok h7) ∧ ((((¬ x8 = (cd_i h7 71 1)) → (Q (some (.int 0)) h7)) ∧ ((x8 = (cd_i h7 71 1)) → (Q (some (.int 1)) h7))))))))))))) : cd_W X m_Not_isObject kc ks 0 [some (.ref 71)] [] h Q := by
  refine cd_aload_n (i := 0) (v := .ref 71) d_Not_isObject_0 rfl rfl (cd_isr_ref _) ?_
  refine cd_iconst (v := 0) d_Not_isObject_1 (by decide) ?_
  refine cd_bipush (v := 123) d_Not_isObject_2 (by decide) ?_
  refine cd_callV (kc := kc) (ks := ks) (kc' := 0) (ks' := 0) (As := [.int 0, .int 123]) (S := []) d_Not_isObject_4 ca_Not_isObject_25 (cc_k71 F) rfl (Nat.le_of_ble_eq_true rfl) (Nat.le_of_ble_eq_true rfl) ?_
  refine cd_W.mono (fun r1 h2 H => ?_) H
  obtain ⟨x3, rfl, H⟩ := H
  obtain ⟨F4, H⟩ := H
  show cd_W X m_Not_isObject kc ks 7 [some (.ref 71)] [.int x3] h2 Q
  refine cd_if_eq (tgt := 27) d_Not_isObject_7 (by decide) (fun t5 => ?_) (fun t5 => ?_)
  · replace H := H.1 t5
    refine cd_iconst (v := 0) d_Not_isObject_27 (by decide) ?_
    exact cd_iret d_Not_isObject_28 rfl rfl H
  · replace H := H.2 t5
    refine cd_aload_n (i := 0) (v := .ref 71) d_Not_isObject_10 rfl rfl (cd_isr_ref _) ?_
    refine cd_iconst (v := 0) d_Not_isObject_11 (by decide) ?_
    refine cd_iconst (v := 0) d_Not_isObject_12 (by decide) ?_
    refine cd_callV (kc := kc) (ks := ks) (kc' := 0) (ks' := 0) (As := [.int 0, .int 0]) (S := []) d_Not_isObject_13 ca_Not_isObject_29 (cc_k71 F4) rfl (Nat.le_of_ble_eq_true rfl) (Nat.le_of_ble_eq_true rfl) ?_
    refine cd_W.mono (fun r6 h7 H => ?_) H
    obtain ⟨x8, rfl, H⟩ := H
    obtain ⟨F9, H⟩ := H
    show cd_W X m_Not_isObject kc ks 16 [some (.ref 71)] [.int x8] h7 Q
    refine cd_aload_n (i := 0) (v := .ref 71) d_Not_isObject_16 rfl rfl (cd_isr_ref _) ?_
    refine cd_get (v := .int (cd_i h7 71 1)) d_Not_isObject_17 fl_Not_15 (cc_k71 F9) rfl ?_
    refine cd_icmp_ne (tgt := 27) d_Not_isObject_20 (by decide) (fun t10 => ?_) (fun t10 => ?_)
    · replace H := H.1 t10
      refine cd_iconst (v := 0) d_Not_isObject_27 (by decide) ?_
      exact cd_iret d_Not_isObject_28 rfl rfl H
    · replace H := H.2 t10
      refine cd_iconst (v := 1) d_Not_isObject_23 (by decide) ?_
      refine cd_goto (tgt := 28) d_Not_isObject_24 (by decide) ?_
      exact cd_iret d_Not_isObject_28 rfl rfl H

abbrev m_Not_field : cd_M := (⟨"CertificateDesk$Notation", "field", "(ILjava/lang/String;)I"⟩, prog_9_method_6_code, 7, some .int, 28, 1522)
theorem d_Not_field_0 : decode prog_9_method_6_code 0 = .ok (.aload_n 0, 1) := by decide +kernel
theorem d_Not_field_1 : decode prog_9_method_6_code 1 = .ok (.iload_n 1, 1) := by decide +kernel
theorem d_Not_field_2 : decode prog_9_method_6_code 2 = .ok (.bipush 123, 2) := by decide +kernel
theorem d_Not_field_4 : decode prog_9_method_6_code 4 = .ok (.invokevirtual 25, 3) := by decide +kernel
theorem ca_Not_field_25 {X : cd_E} : cd_CV X m_Not_field m_Not_has 25 2 6 := ⟨⟨by decide, kw_2_45, kw_1_3, ⟨by decide, by decide, by decide +kernel⟩, by decide, by decide⟩, ⟨_, rfl, rfl⟩, kw_2_44, kp_6, (Or.inl kw_2_42)⟩
theorem d_Not_field_7 : decode prog_9_method_6_code 7 = .ok (.ifCond .ne 5, 3) := by decide +kernel
theorem d_Not_field_12 : decode prog_9_method_6_code 12 = .ok (.iload_n 1, 1) := by decide +kernel
theorem d_Not_field_13 : decode prog_9_method_6_code 13 = .ok (.iconst 1, 1) := by decide +kernel
theorem d_Not_field_14 : decode prog_9_method_6_code 14 = .ok (.iadd, 1) := by decide +kernel
theorem d_Not_field_15 : decode prog_9_method_6_code 15 = .ok (.istore_n 3, 1) := by decide +kernel
theorem d_Not_field_16 : decode prog_9_method_6_code 16 = .ok (.iconst 0, 1) := by decide +kernel
theorem d_Not_field_17 : decode prog_9_method_6_code 17 = .ok (.istore 4, 2) := by decide +kernel
theorem d_Not_field_10 : decode prog_9_method_6_code 10 = .ok (.iconst (-1), 1) := by decide +kernel
theorem d_Not_field_11 : decode prog_9_method_6_code 11 = .ok (.ireturn, 1) := by decide +kernel
theorem g_Not_field {X : cd_E} {kc ks : Nat} {h : cd_H} {Q : Option Value → cd_H → Prop} {p1 : Int32} {p2 : Nat} (F : cc_ok h) (H : cd_W X m_Not_has 0 0 0 [some (.ref 71), some (.int p1), some (.int 123)] [] h (fun r1 h2 => ∃ x3 : Int32, r1 = some (.int x3) ∧ ((cc_ok h2) ∧ ((((¬ x3 = 0) → (cd_W X m_Not_field kc ks 19 [some (.ref 71), none, some (.ref p2), some (.int (p1 + 1)), some (.int 0), none, none] [] h2 Q)) ∧ ((x3 = 0) → (Q (some (.int (-1))) h2))))))) : cd_W X m_Not_field kc ks 0 [some (.ref 71), some (.int p1), some (.ref p2), none, none, none, none] [] h Q := by
  refine cd_aload_n (i := 0) (v := .ref 71) d_Not_field_0 rfl rfl (cd_isr_ref _) ?_
  refine cd_iload_n (i := 1) d_Not_field_1 rfl rfl ?_
  refine cd_bipush (v := 123) d_Not_field_2 (by decide) ?_
  refine cd_callV (kc := kc) (ks := ks) (kc' := 0) (ks' := 0) (As := [.int p1, .int 123]) (S := []) d_Not_field_4 ca_Not_field_25 (cc_k71 F) rfl (Nat.le_of_ble_eq_true rfl) (Nat.le_of_ble_eq_true rfl) ?_
  refine cd_W.mono (fun r1 h2 H => ?_) H
  obtain ⟨x3, rfl, H⟩ := H
  obtain ⟨F4, H⟩ := H
  show cd_W X m_Not_field kc ks 7 [some (.ref 71), some (.int p1), some (.ref p2), none, none, none, none] [.int x3] h2 Q
  refine cd_if_ne (tgt := 12) d_Not_field_7 (by decide) (fun t5 => ?_) (fun t5 => ?_)
  · replace H := H.1 t5
    refine cd_iload_n (i := 1) d_Not_field_12 rfl rfl ?_
    refine cd_iconst (v := 1) d_Not_field_13 (by decide) ?_
    refine cd_iadd d_Not_field_14 ?_
    refine cd_istore_n (i := 3) d_Not_field_15 rfl (by decide) ?_
    show cd_W X m_Not_field kc ks 16 [some (.ref 71), some (.int p1), some (.ref p2), some (.int (p1 + 1)), none, none, none] [] h2 Q
    refine cd_iconst (v := 0) d_Not_field_16 (by decide) ?_
    refine cd_istore (i := 4) d_Not_field_17 (by decide) ?_
    show cd_W X m_Not_field kc ks 19 [some (.ref 71), some (.int p1), some (.ref p2), some (.int (p1 + 1)), some (.int 0), none, none] [] h2 Q
    refine cd_W.drop (i := 1) ?_
    exact H
  · replace H := H.2 t5
    refine cd_iconst (v := (-1)) d_Not_field_10 (by decide) ?_
    exact cd_iret d_Not_field_11 rfl rfl H

theorem d_Not_field_19 : decode prog_9_method_6_code 19 = .ok (.iload 4, 2) := by decide +kernel
theorem d_Not_field_21 : decode prog_9_method_6_code 21 = .ok (.bipush 96, 2) := by decide +kernel
theorem d_Not_field_23 : decode prog_9_method_6_code 23 = .ok (.if_icmp .ge 67, 3) := by decide +kernel
theorem d_Not_field_90 : decode prog_9_method_6_code 90 = .ok (.iconst (-1), 1) := by decide +kernel
theorem d_Not_field_91 : decode prog_9_method_6_code 91 = .ok (.ireturn, 1) := by decide +kernel
theorem d_Not_field_26 : decode prog_9_method_6_code 26 = .ok (.aload_n 0, 1) := by decide +kernel
theorem d_Not_field_27 : decode prog_9_method_6_code 27 = .ok (.iload_n 3, 1) := by decide +kernel
theorem d_Not_field_28 : decode prog_9_method_6_code 28 = .ok (.bipush 34, 2) := by decide +kernel
theorem d_Not_field_30 : decode prog_9_method_6_code 30 = .ok (.invokevirtual 25, 3) := by decide +kernel
theorem d_Not_field_33 : decode prog_9_method_6_code 33 = .ok (.ifCond .eq 57, 3) := by decide +kernel
theorem d_Not_field_36 : decode prog_9_method_6_code 36 = .ok (.aload_n 0, 1) := by decide +kernel
theorem d_Not_field_37 : decode prog_9_method_6_code 37 = .ok (.iload_n 3, 1) := by decide +kernel
theorem d_Not_field_38 : decode prog_9_method_6_code 38 = .ok (.invokevirtual 32, 3) := by decide +kernel
abbrev m_Not_endOfString : cd_M := (⟨"CertificateDesk$Notation", "endOfString", "(I)I"⟩, prog_9_method_18_code, 3, some .int, 2, 42)
theorem kw_2_50 : (Jvm.Cond.methodLink "CertificateDesk$Notation" (32 : Nat) ({ cls := "CertificateDesk$Notation", name := "endOfString", desc := "(I)I" } : Jvm.MethodName)) ∈ cd_tbl := tb_2 (List.mem_of_getElem? (i := 50) (by decide +kernel)) (by decide)
theorem kw_2_53 : (Jvm.Cond.code ({ cls := "CertificateDesk$Notation", name := "endOfString", desc := "(I)I" } : Jvm.MethodName) prog_9_method_18_code (3 : Nat) (Option.some Jvm.ClassFile.FieldType.int)) ∈ cd_tbl := tb_2 (List.mem_of_getElem? (i := 53) (by decide +kernel)) (by decide)
theorem kw_2_52 : (Jvm.Cond.instanceMethod ({ cls := "CertificateDesk$Notation", name := "endOfString", desc := "(I)I" } : Jvm.MethodName)) ∈ cd_tbl := tb_2 (List.mem_of_getElem? (i := 52) (by decide +kernel)) (by decide)
theorem kp_8 : Cond.selects "CertificateDesk$Notation" ⟨"CertificateDesk$Notation", "endOfString", "(I)I"⟩ ⟨"CertificateDesk$Notation", "endOfString", "(I)I"⟩ ∈ cd_tbl := cd_sel (List.mem_of_getElem? (i := 8) (by decide +kernel)) (by decide)
theorem ca_Not_field_32 {X : cd_E} : cd_CV X m_Not_field m_Not_endOfString 32 1 6 := ⟨⟨by decide, kw_2_53, kw_1_3, ⟨by decide, by decide, by decide +kernel⟩, by decide, by decide⟩, ⟨_, rfl, rfl⟩, kw_2_52, kp_8, (Or.inl kw_2_50)⟩
theorem d_Not_field_41 : decode prog_9_method_6_code 41 = .ok (.iconst 1, 1) := by decide +kernel
theorem d_Not_field_42 : decode prog_9_method_6_code 42 = .ok (.iadd, 1) := by decide +kernel
theorem d_Not_field_43 : decode prog_9_method_6_code 43 = .ok (.istore 5, 2) := by decide +kernel
theorem d_Not_field_45 : decode prog_9_method_6_code 45 = .ok (.aload_n 0, 1) := by decide +kernel
theorem d_Not_field_46 : decode prog_9_method_6_code 46 = .ok (.iload_n 3, 1) := by decide +kernel
theorem d_Not_field_47 : decode prog_9_method_6_code 47 = .ok (.aload_n 2, 1) := by decide +kernel
theorem d_Not_field_48 : decode prog_9_method_6_code 48 = .ok (.invokevirtual 36, 3) := by decide +kernel
abbrev m_Not_spells : cd_M := (⟨"CertificateDesk$Notation", "spells", "(ILjava/lang/String;)Z"⟩, prog_9_method_9_code, 5, some .boolean, 27, 591)
theorem kw_2_71 : (Jvm.Cond.methodLink "CertificateDesk$Notation" (36 : Nat) ({ cls := "CertificateDesk$Notation", name := "spells", desc := "(ILjava/lang/String;)Z" } : Jvm.MethodName)) ∈ cd_tbl := tb_2 (List.mem_of_getElem? (i := 71) (by decide +kernel)) (by decide)
theorem kw_2_74 : (Jvm.Cond.code ({ cls := "CertificateDesk$Notation", name := "spells", desc := "(ILjava/lang/String;)Z" } : Jvm.MethodName) prog_9_method_9_code (5 : Nat) (Option.some Jvm.ClassFile.FieldType.boolean)) ∈ cd_tbl := tb_2 (List.mem_of_getElem? (i := 74) (by decide +kernel)) (by decide)
theorem kw_2_72 : (Jvm.Cond.instanceMethod ({ cls := "CertificateDesk$Notation", name := "spells", desc := "(ILjava/lang/String;)Z" } : Jvm.MethodName)) ∈ cd_tbl := tb_2 (List.mem_of_getElem? (i := 72) (by decide +kernel)) (by decide)
theorem kw_2_73 : (Jvm.Cond.selects "CertificateDesk$Notation" ({ cls := "CertificateDesk$Notation", name := "spells", desc := "(ILjava/lang/String;)Z" } : Jvm.MethodName) ({ cls := "CertificateDesk$Notation", name := "spells", desc := "(ILjava/lang/String;)Z" } : Jvm.MethodName)) ∈ cd_tbl := tb_2 (List.mem_of_getElem? (i := 73) (by decide +kernel)) (by decide)
theorem ca_Not_field_36 {X : cd_E} : cd_CV X m_Not_field m_Not_spells 36 2 6 := ⟨⟨by decide, kw_2_74, kw_1_3, ⟨by decide, by decide, by decide +kernel⟩, by decide, by decide⟩, ⟨_, rfl, rfl⟩, kw_2_72, kw_2_73, (Or.inl kw_2_71)⟩
theorem d_Not_field_51 : decode prog_9_method_6_code 51 = .ok (.ifCond .eq 6, 3) := by decide +kernel
theorem d_Not_field_57 : decode prog_9_method_6_code 57 = .ok (.aload_n 0, 1) := by decide +kernel
theorem d_Not_field_58 : decode prog_9_method_6_code 58 = .ok (.iload 5, 2) := by decide +kernel
theorem d_Not_field_60 : decode prog_9_method_6_code 60 = .ok (.iconst 0, 1) := by decide +kernel
theorem d_Not_field_61 : decode prog_9_method_6_code 61 = .ok (.invokevirtual 29, 3) := by decide +kernel
theorem ca_Not_field_29 {X : cd_E} : cd_CV X m_Not_field (m_Not_endOfValue 6) 29 2 6 := ⟨⟨by decide, kw_2_49, kw_1_3, ⟨by decide, by decide, by decide +kernel⟩, by decide, by decide⟩, ⟨_, rfl, rfl⟩, kw_2_48, kp_7, (Or.inl kw_2_46)⟩
theorem d_Not_field_64 : decode prog_9_method_6_code 64 = .ok (.istore 6, 2) := by decide +kernel
theorem d_Not_field_66 : decode prog_9_method_6_code 66 = .ok (.aload_n 0, 1) := by decide +kernel
theorem d_Not_field_67 : decode prog_9_method_6_code 67 = .ok (.iload 6, 2) := by decide +kernel
theorem d_Not_field_69 : decode prog_9_method_6_code 69 = .ok (.bipush 44, 2) := by decide +kernel
theorem d_Not_field_71 : decode prog_9_method_6_code 71 = .ok (.invokevirtual 25, 3) := by decide +kernel
theorem d_Not_field_74 : decode prog_9_method_6_code 74 = .ok (.ifCond .ne 5, 3) := by decide +kernel
theorem d_Not_field_79 : decode prog_9_method_6_code 79 = .ok (.iload 6, 2) := by decide +kernel
theorem d_Not_field_81 : decode prog_9_method_6_code 81 = .ok (.iconst 1, 1) := by decide +kernel
theorem d_Not_field_82 : decode prog_9_method_6_code 82 = .ok (.iadd, 1) := by decide +kernel
theorem d_Not_field_83 : decode prog_9_method_6_code 83 = .ok (.istore_n 3, 1) := by decide +kernel
theorem d_Not_field_84 : decode prog_9_method_6_code 84 = .ok (.iinc 4 1, 3) := by decide +kernel
theorem d_Not_field_87 : decode prog_9_method_6_code 87 = .ok (.goto (-68), 3) := by decide +kernel
theorem d_Not_field_77 : decode prog_9_method_6_code 77 = .ok (.iconst (-1), 1) := by decide +kernel
theorem d_Not_field_78 : decode prog_9_method_6_code 78 = .ok (.ireturn, 1) := by decide +kernel
theorem d_Not_field_54 : decode prog_9_method_6_code 54 = .ok (.iload 5, 2) := by decide +kernel
theorem d_Not_field_56 : decode prog_9_method_6_code 56 = .ok (.ireturn, 1) := by decide +kernel
theorem g_Not_field_19 {X : cd_E} {kc ks : Nat} {h : cd_H} {Q : Option Value → cd_H → Prop} {v2 : Nat} {v3 : Int32} {v4 : Int32} (F : cc_ok h) (H : (((96 ≤ v4) → (Q (some (.int (-1))) h)) ∧ ((¬ 96 ≤ v4) → (cd_W X m_Not_has 0 0 0 [some (.ref 71), some (.int v3), some (.int 34)] [] h (fun r2 h3 => ∃ x4 : Int32, r2 = some (.int x4) ∧ ((cc_ok h3) ∧ ((((x4 = 0) → (Q (some (.int (-1))) h3)) ∧ ((¬ x4 = 0) → (cd_W X m_Not_endOfString 0 0 0 [some (.ref 71), some (.int v3), none] [] h3 (fun r7 h8 => ∃ x9 : Int32, r7 = some (.int x9) ∧ ((cc_ok h8) ∧ (cd_W X m_Not_spells 0 0 0 [some (.ref 71), some (.int v3), some (.ref v2), none, none] [] h8 (fun r11 h12 => ∃ x13 : Int32, r11 = some (.int x13) ∧ ((cc_ok h12) ∧ ((((x13 = 0) → (cd_W X (m_Not_endOfValue 6) 0 0 0 [some (.ref 71), some (.int (x9 + 1)), some (.int 0)] [] h12 (fun r16 h17 => ∃ x18 : Int32, r16 = some (.int x18) ∧ ((cc_ok h17) ∧ (cd_W X m_Not_has 0 0 0 [some (.ref 71), some (.int x18), some (.int 44)] [] h17 (fun r20 h21 => ∃ x22 : Int32, r20 = some (.int x22) ∧ ((cc_ok h21) ∧ ((((¬ x22 = 0) → (cd_W X m_Not_field kc ks 19 [some (.ref 71), none, some (.ref v2), some (.int (x18 + 1)), some (.int (v4 + 1)), none, none] [] h21 Q)) ∧ ((x22 = 0) → (Q (some (.int (-1))) h21))))))))))) ∧ ((¬ x13 = 0) → (Q (some (.int (x9 + 1))) h12))))))))))))))))))) : cd_W X m_Not_field kc ks 19 [some (.ref 71), none, some (.ref v2), some (.int v3), some (.int v4), none, none] [] h Q := by
  refine cd_iload (i := 4) d_Not_field_19 rfl ?_
  refine cd_bipush (v := 96) d_Not_field_21 (by decide) ?_
  refine cd_icmp_ge (tgt := 90) d_Not_field_23 (by decide) (fun t1 => ?_) (fun t1 => ?_)
  · replace H := H.1 t1
    refine cd_iconst (v := (-1)) d_Not_field_90 (by decide) ?_
    exact cd_iret d_Not_field_91 rfl rfl H
  · replace H := H.2 t1
    refine cd_aload_n (i := 0) (v := .ref 71) d_Not_field_26 rfl rfl (cd_isr_ref _) ?_
    refine cd_iload_n (i := 3) d_Not_field_27 rfl rfl ?_
    refine cd_bipush (v := 34) d_Not_field_28 (by decide) ?_
    refine cd_callV (kc := kc) (ks := ks) (kc' := 0) (ks' := 0) (As := [.int v3, .int 34]) (S := []) d_Not_field_30 ca_Not_field_25 (cc_k71 F) rfl (Nat.le_of_ble_eq_true rfl) (Nat.le_of_ble_eq_true rfl) ?_
    refine cd_W.mono (fun r2 h3 H => ?_) H
    obtain ⟨x4, rfl, H⟩ := H
    obtain ⟨F5, H⟩ := H
    show cd_W X m_Not_field kc ks 33 [some (.ref 71), none, some (.ref v2), some (.int v3), some (.int v4), none, none] [.int x4] h3 Q
    refine cd_if_eq (tgt := 90) d_Not_field_33 (by decide) (fun t6 => ?_) (fun t6 => ?_)
    · replace H := H.1 t6
      refine cd_iconst (v := (-1)) d_Not_field_90 (by decide) ?_
      exact cd_iret d_Not_field_91 rfl rfl H
    · replace H := H.2 t6
      refine cd_aload_n (i := 0) (v := .ref 71) d_Not_field_36 rfl rfl (cd_isr_ref _) ?_
      refine cd_iload_n (i := 3) d_Not_field_37 rfl rfl ?_
      refine cd_callV (kc := kc) (ks := ks) (kc' := 0) (ks' := 0) (As := [.int v3]) (S := []) d_Not_field_38 ca_Not_field_32 (cc_k71 F5) rfl (Nat.le_of_ble_eq_true rfl) (Nat.le_of_ble_eq_true rfl) ?_
      refine cd_W.mono (fun r7 h8 H => ?_) H
      obtain ⟨x9, rfl, H⟩ := H
      obtain ⟨F10, H⟩ := H
      show cd_W X m_Not_field kc ks 41 [some (.ref 71), none, some (.ref v2), some (.int v3), some (.int v4), none, none] [.int x9] h8 Q
      refine cd_iconst (v := 1) d_Not_field_41 (by decide) ?_
      refine cd_iadd d_Not_field_42 ?_
      refine cd_istore (i := 5) d_Not_field_43 (by decide) ?_
      show cd_W X m_Not_field kc ks 45 [some (.ref 71), none, some (.ref v2), some (.int v3), some (.int v4), some (.int (x9 + 1)), none] [] h8 Q
      refine cd_aload_n (i := 0) (v := .ref 71) d_Not_field_45 rfl rfl (cd_isr_ref _) ?_
      refine cd_iload_n (i := 3) d_Not_field_46 rfl rfl ?_
      refine cd_aload_n (i := 2) (v := .ref v2) d_Not_field_47 rfl rfl (cd_isr_ref _) ?_
      refine cd_callV (kc := kc) (ks := ks) (kc' := 0) (ks' := 0) (As := [.int v3, .ref v2]) (S := []) d_Not_field_48 ca_Not_field_36 (cc_k71 F10) rfl (Nat.le_of_ble_eq_true rfl) (Nat.le_of_ble_eq_true rfl) ?_
      refine cd_W.mono (fun r11 h12 H => ?_) H
      obtain ⟨x13, rfl, H⟩ := H
      obtain ⟨F14, H⟩ := H
      show cd_W X m_Not_field kc ks 51 [some (.ref 71), none, some (.ref v2), some (.int v3), some (.int v4), some (.int (x9 + 1)), none] [.int x13] h12 Q
      refine cd_if_eq (tgt := 57) d_Not_field_51 (by decide) (fun t15 => ?_) (fun t15 => ?_)
      · replace H := H.1 t15
        refine cd_aload_n (i := 0) (v := .ref 71) d_Not_field_57 rfl rfl (cd_isr_ref _) ?_
        refine cd_iload (i := 5) d_Not_field_58 rfl ?_
        refine cd_iconst (v := 0) d_Not_field_60 (by decide) ?_
        refine cd_callV (kc := kc) (ks := ks) (kc' := 0) (ks' := 0) (As := [.int (x9 + 1), .int 0]) (S := []) d_Not_field_61 ca_Not_field_29 (cc_k71 F14) rfl (Nat.le_of_ble_eq_true rfl) (Nat.le_of_ble_eq_true rfl) ?_
        refine cd_W.mono (fun r16 h17 H => ?_) H
        obtain ⟨x18, rfl, H⟩ := H
        obtain ⟨F19, H⟩ := H
        show cd_W X m_Not_field kc ks 64 [some (.ref 71), none, some (.ref v2), some (.int v3), some (.int v4), some (.int (x9 + 1)), none] [.int x18] h17 Q
        refine cd_istore (i := 6) d_Not_field_64 (by decide) ?_
        show cd_W X m_Not_field kc ks 66 [some (.ref 71), none, some (.ref v2), some (.int v3), some (.int v4), some (.int (x9 + 1)), some (.int x18)] [] h17 Q
        refine cd_aload_n (i := 0) (v := .ref 71) d_Not_field_66 rfl rfl (cd_isr_ref _) ?_
        refine cd_iload (i := 6) d_Not_field_67 rfl ?_
        refine cd_bipush (v := 44) d_Not_field_69 (by decide) ?_
        refine cd_callV (kc := kc) (ks := ks) (kc' := 0) (ks' := 0) (As := [.int x18, .int 44]) (S := []) d_Not_field_71 ca_Not_field_25 (cc_k71 F19) rfl (Nat.le_of_ble_eq_true rfl) (Nat.le_of_ble_eq_true rfl) ?_
        refine cd_W.mono (fun r20 h21 H => ?_) H
        obtain ⟨x22, rfl, H⟩ := H
        obtain ⟨F23, H⟩ := H
        show cd_W X m_Not_field kc ks 74 [some (.ref 71), none, some (.ref v2), some (.int v3), some (.int v4), some (.int (x9 + 1)), some (.int x18)] [.int x22] h21 Q
        refine cd_if_ne (tgt := 79) d_Not_field_74 (by decide) (fun t24 => ?_) (fun t24 => ?_)
        · replace H := H.1 t24
          refine cd_iload (i := 6) d_Not_field_79 rfl ?_
          refine cd_iconst (v := 1) d_Not_field_81 (by decide) ?_
          refine cd_iadd d_Not_field_82 ?_
          refine cd_istore_n (i := 3) d_Not_field_83 rfl (by decide) ?_
          show cd_W X m_Not_field kc ks 84 [some (.ref 71), none, some (.ref v2), some (.int (x18 + 1)), some (.int v4), some (.int (x9 + 1)), some (.int x18)] [] h21 Q
          refine cd_iinc (i := 4) (v := (v4 + 1)) d_Not_field_84 rfl (cd_inc1 _) (by decide) ?_
          show cd_W X m_Not_field kc ks 87 [some (.ref 71), none, some (.ref v2), some (.int (x18 + 1)), some (.int (v4 + 1)), some (.int (x9 + 1)), some (.int x18)] [] h21 Q
          refine cd_goto (tgt := 19) d_Not_field_87 (by decide) ?_
          refine cd_W.drop (i := 5) ?_
          refine cd_W.drop (i := 6) ?_
          exact H
        · replace H := H.2 t24
          refine cd_iconst (v := (-1)) d_Not_field_77 (by decide) ?_
          exact cd_iret d_Not_field_78 rfl rfl H
      · replace H := H.2 t15
        refine cd_iload (i := 5) d_Not_field_54 rfl ?_
        exact cd_iret d_Not_field_56 rfl rfl H

abbrev m_Not_strings : cd_M := (⟨"CertificateDesk$Notation", "strings", "(I[I)I"⟩, prog_9_method_7_code, 6, some .int, 3, 64)
theorem d_Not_strings_0 : decode prog_9_method_7_code 0 = .ok (.aload_n 0, 1) := by decide +kernel
theorem d_Not_strings_1 : decode prog_9_method_7_code 1 = .ok (.iload_n 1, 1) := by decide +kernel
theorem d_Not_strings_2 : decode prog_9_method_7_code 2 = .ok (.bipush 91, 2) := by decide +kernel
theorem d_Not_strings_4 : decode prog_9_method_7_code 4 = .ok (.invokevirtual 25, 3) := by decide +kernel
theorem ca_Not_strings_25 {X : cd_E} : cd_CV X m_Not_strings m_Not_has 25 2 6 := ⟨⟨by decide, kw_2_45, kw_1_3, ⟨by decide, by decide, by decide +kernel⟩, by decide, by decide⟩, ⟨_, rfl, rfl⟩, kw_2_44, kp_6, (Or.inl kw_2_42)⟩
theorem d_Not_strings_7 : decode prog_9_method_7_code 7 = .ok (.ifCond .ne 5, 3) := by decide +kernel
theorem d_Not_strings_12 : decode prog_9_method_7_code 12 = .ok (.aload_n 0, 1) := by decide +kernel
theorem d_Not_strings_13 : decode prog_9_method_7_code 13 = .ok (.iload_n 1, 1) := by decide +kernel
theorem d_Not_strings_14 : decode prog_9_method_7_code 14 = .ok (.iconst 1, 1) := by decide +kernel
theorem d_Not_strings_15 : decode prog_9_method_7_code 15 = .ok (.iadd, 1) := by decide +kernel
theorem d_Not_strings_16 : decode prog_9_method_7_code 16 = .ok (.bipush 93, 2) := by decide +kernel
theorem d_Not_strings_18 : decode prog_9_method_7_code 18 = .ok (.invokevirtual 25, 3) := by decide +kernel
theorem d_Not_strings_21 : decode prog_9_method_7_code 21 = .ok (.ifCond .eq 5, 3) := by decide +kernel
theorem d_Not_strings_26 : decode prog_9_method_7_code 26 = .ok (.iload_n 1, 1) := by decide +kernel
theorem d_Not_strings_27 : decode prog_9_method_7_code 27 = .ok (.iconst 1, 1) := by decide +kernel
theorem d_Not_strings_28 : decode prog_9_method_7_code 28 = .ok (.iadd, 1) := by decide +kernel
theorem d_Not_strings_29 : decode prog_9_method_7_code 29 = .ok (.istore_n 3, 1) := by decide +kernel
theorem d_Not_strings_30 : decode prog_9_method_7_code 30 = .ok (.iconst 0, 1) := by decide +kernel
theorem d_Not_strings_31 : decode prog_9_method_7_code 31 = .ok (.istore 4, 2) := by decide +kernel
theorem d_Not_strings_24 : decode prog_9_method_7_code 24 = .ok (.iconst 0, 1) := by decide +kernel
theorem d_Not_strings_25 : decode prog_9_method_7_code 25 = .ok (.ireturn, 1) := by decide +kernel
theorem d_Not_strings_10 : decode prog_9_method_7_code 10 = .ok (.iconst (-1), 1) := by decide +kernel
theorem d_Not_strings_11 : decode prog_9_method_7_code 11 = .ok (.ireturn, 1) := by decide +kernel
theorem g_Not_strings {X : cd_E} {kc ks : Nat} {h : cd_H} {Q : Option Value → cd_H → Prop} {p1 : Int32} {p2 : Nat} (F : cc_ok h) (H : cd_W X m_Not_has 0 0 0 [some (.ref 71), some (.int p1), some (.int 91)] [] h (fun r1 h2 => ∃ x3 : Int32, r1 = some (.int x3) ∧ ((cc_ok h2) ∧ ((((¬ x3 = 0) → (cd_W X m_Not_has 0 0 0 [some (.ref 71), some (.int (p1 + 1)), some (.int 93)] [] h2 (fun r6 h7 => ∃ x8 : Int32, r6 = some (.int x8) ∧ ((cc_ok h7) ∧ ((((x8 = 0) → (cd_W X m_Not_strings kc ks 33 [some (.ref 71), none, some (.ref p2), some (.int (p1 + 1)), some (.int 0), none] [] h7 Q)) ∧ ((¬ x8 = 0) → (Q (some (.int 0)) h7)))))))) ∧ ((x3 = 0) → (Q (some (.int (-1))) h2))))))) : cd_W X m_Not_strings kc ks 0 [some (.ref 71), some (.int p1), some (.ref p2), none, none, none] [] h Q := by
  refine cd_aload_n (i := 0) (v := .ref 71) d_Not_strings_0 rfl rfl (cd_isr_ref _) ?_
  refine cd_iload_n (i := 1) d_Not_strings_1 rfl rfl ?_
  refine cd_bipush (v := 91) d_Not_strings_2 (by decide) ?_
  refine cd_callV (kc := kc) (ks := ks) (kc' := 0) (ks' := 0) (As := [.int p1, .int 91]) (S := []) d_Not_strings_4 ca_Not_strings_25 (cc_k71 F) rfl (Nat.le_of_ble_eq_true rfl) (Nat.le_of_ble_eq_true rfl) ?_
  refine cd_W.mono (fun r1 h2 H => ?_) H
  obtain ⟨x3, rfl, H⟩ := H
  obtain ⟨F4, H⟩ := H
  show cd_W X m_Not_strings kc ks 7 [some (.ref 71), some (.int p1), some (.ref p2), none, none, none] [.int x3] h2 Q
  refine cd_if_ne (tgt := 12) d_Not_strings_7 (by decide) (fun t5 => ?_) (fun t5 => ?_)
  · replace H := H.1 t5
    refine cd_aload_n (i := 0) (v := .ref 71) d_Not_strings_12 rfl rfl (cd_isr_ref _) ?_
    refine cd_iload_n (i := 1) d_Not_strings_13 rfl rfl ?_
    refine cd_iconst (v := 1) d_Not_strings_14 (by decide) ?_
    refine cd_iadd d_Not_strings_15 ?_
    refine cd_bipush (v := 93) d_Not_strings_16 (by decide) ?_
    refine cd_callV (kc := kc) (ks := ks) (kc' := 0) (ks' := 0) (As := [.int (p1 + 1), .int 93]) (S := []) d_Not_strings_18 ca_Not_strings_25 (cc_k71 F4) rfl (Nat.le_of_ble_eq_true rfl) (Nat.le_of_ble_eq_true rfl) ?_
    refine cd_W.mono (fun r6 h7 H => ?_) H
    obtain ⟨x8, rfl, H⟩ := H
    obtain ⟨F9, H⟩ := H
    show cd_W X m_Not_strings kc ks 21 [some (.ref 71), some (.int p1), some (.ref p2), none, none, none] [.int x8] h7 Q
    refine cd_if_eq (tgt := 26) d_Not_strings_21 (by decide) (fun t10 => ?_) (fun t10 => ?_)
    · replace H := H.1 t10
      refine cd_iload_n (i := 1) d_Not_strings_26 rfl rfl ?_
      refine cd_iconst (v := 1) d_Not_strings_27 (by decide) ?_
      refine cd_iadd d_Not_strings_28 ?_
      refine cd_istore_n (i := 3) d_Not_strings_29 rfl (by decide) ?_
      show cd_W X m_Not_strings kc ks 30 [some (.ref 71), some (.int p1), some (.ref p2), some (.int (p1 + 1)), none, none] [] h7 Q
      refine cd_iconst (v := 0) d_Not_strings_30 (by decide) ?_
      refine cd_istore (i := 4) d_Not_strings_31 (by decide) ?_
      show cd_W X m_Not_strings kc ks 33 [some (.ref 71), some (.int p1), some (.ref p2), some (.int (p1 + 1)), some (.int 0), none] [] h7 Q
      refine cd_W.drop (i := 1) ?_
      exact H
    · replace H := H.2 t10
      refine cd_iconst (v := 0) d_Not_strings_24 (by decide) ?_
      exact cd_iret d_Not_strings_25 rfl rfl H
  · replace H := H.2 t5
    refine cd_iconst (v := (-1)) d_Not_strings_10 (by decide) ?_
    exact cd_iret d_Not_strings_11 rfl rfl H

theorem d_Not_strings_33 : decode prog_9_method_7_code 33 = .ok (.iload 4, 2) := by decide +kernel
theorem d_Not_strings_35 : decode prog_9_method_7_code 35 = .ok (.aload_n 2, 1) := by decide +kernel
theorem d_Not_strings_36 : decode prog_9_method_7_code 36 = .ok (.arraylength, 1) := by decide +kernel
theorem d_Not_strings_37 : decode prog_9_method_7_code 37 = .ok (.if_icmp .ge 52, 3) := by decide +kernel
theorem d_Not_strings_89 : decode prog_9_method_7_code 89 = .ok (.iconst (-1), 1) := by decide +kernel
theorem d_Not_strings_90 : decode prog_9_method_7_code 90 = .ok (.ireturn, 1) := by decide +kernel
theorem d_Not_strings_40 : decode prog_9_method_7_code 40 = .ok (.aload_n 0, 1) := by decide +kernel
theorem d_Not_strings_41 : decode prog_9_method_7_code 41 = .ok (.iload_n 3, 1) := by decide +kernel
theorem d_Not_strings_42 : decode prog_9_method_7_code 42 = .ok (.bipush 34, 2) := by decide +kernel
theorem d_Not_strings_44 : decode prog_9_method_7_code 44 = .ok (.invokevirtual 25, 3) := by decide +kernel
theorem d_Not_strings_47 : decode prog_9_method_7_code 47 = .ok (.ifCond .eq 42, 3) := by decide +kernel
theorem d_Not_strings_50 : decode prog_9_method_7_code 50 = .ok (.aload_n 2, 1) := by decide +kernel
theorem d_Not_strings_51 : decode prog_9_method_7_code 51 = .ok (.iload 4, 2) := by decide +kernel
theorem d_Not_strings_53 : decode prog_9_method_7_code 53 = .ok (.iload_n 3, 1) := by decide +kernel
theorem d_Not_strings_54 : decode prog_9_method_7_code 54 = .ok (.iastore, 1) := by decide +kernel
theorem d_Not_strings_55 : decode prog_9_method_7_code 55 = .ok (.aload_n 0, 1) := by decide +kernel
theorem d_Not_strings_56 : decode prog_9_method_7_code 56 = .ok (.iload_n 3, 1) := by decide +kernel
theorem d_Not_strings_57 : decode prog_9_method_7_code 57 = .ok (.invokevirtual 32, 3) := by decide +kernel
theorem ca_Not_strings_32 {X : cd_E} : cd_CV X m_Not_strings m_Not_endOfString 32 1 6 := ⟨⟨by decide, kw_2_53, kw_1_3, ⟨by decide, by decide, by decide +kernel⟩, by decide, by decide⟩, ⟨_, rfl, rfl⟩, kw_2_52, kp_8, (Or.inl kw_2_50)⟩
theorem d_Not_strings_60 : decode prog_9_method_7_code 60 = .ok (.istore 5, 2) := by decide +kernel
theorem d_Not_strings_62 : decode prog_9_method_7_code 62 = .ok (.aload_n 0, 1) := by decide +kernel
theorem d_Not_strings_63 : decode prog_9_method_7_code 63 = .ok (.iload 5, 2) := by decide +kernel
theorem d_Not_strings_65 : decode prog_9_method_7_code 65 = .ok (.bipush 93, 2) := by decide +kernel
theorem d_Not_strings_67 : decode prog_9_method_7_code 67 = .ok (.invokevirtual 25, 3) := by decide +kernel
theorem d_Not_strings_70 : decode prog_9_method_7_code 70 = .ok (.ifCond .eq 8, 3) := by decide +kernel
theorem d_Not_strings_78 : decode prog_9_method_7_code 78 = .ok (.iload 5, 2) := by decide +kernel
theorem d_Not_strings_80 : decode prog_9_method_7_code 80 = .ok (.iconst 1, 1) := by decide +kernel
theorem d_Not_strings_81 : decode prog_9_method_7_code 81 = .ok (.iadd, 1) := by decide +kernel
theorem d_Not_strings_82 : decode prog_9_method_7_code 82 = .ok (.istore_n 3, 1) := by decide +kernel
theorem d_Not_strings_83 : decode prog_9_method_7_code 83 = .ok (.iinc 4 1, 3) := by decide +kernel
theorem d_Not_strings_86 : decode prog_9_method_7_code 86 = .ok (.goto (-53), 3) := by decide +kernel
theorem d_Not_strings_73 : decode prog_9_method_7_code 73 = .ok (.iload 4, 2) := by decide +kernel
theorem d_Not_strings_75 : decode prog_9_method_7_code 75 = .ok (.iconst 1, 1) := by decide +kernel
theorem d_Not_strings_76 : decode prog_9_method_7_code 76 = .ok (.iadd, 1) := by decide +kernel
theorem d_Not_strings_77 : decode prog_9_method_7_code 77 = .ok (.ireturn, 1) := by decide +kernel
theorem g_Not_strings_33 {X : cd_E} {kc ks : Nat} {h : cd_H} {Q : Option Value → cd_H → Prop} {v2 : Nat} {v3 : Int32} {v4 : Int32} (F : cc_ok h) (H : (∃ n1 : Nat, cd_k h v2 = some (.inr (0, n1)) ∧ (((((nI n1) ≤ v4) → (Q (some (.int (-1))) h)) ∧ ((¬ (nI n1) ≤ v4) → (cd_W X m_Not_has 0 0 0 [some (.ref 71), some (.int v3), some (.int 34)] [] h (fun r4 h5 => ∃ x6 : Int32, r4 = some (.int x6) ∧ ((cc_ok h5) ∧ ((((x6 = 0) → (Q (some (.int (-1))) h5)) ∧ ((¬ x6 = 0) → ((∃ n9 : Nat, cd_k h5 v2 = some (.inr (0, n9)) ∧ ((64 ≤ v2) ∧ ((vp_in v4 n9) ∧ (cd_W X m_Not_endOfString 0 0 0 [some (.ref 71), some (.int v3), none] [] (cd_si h5 v2 v4.toNatClampNeg v3) (fun r13 h14 => ∃ x15 : Int32, r13 = some (.int x15) ∧ ((cc_ok h14) ∧ (cd_W X m_Not_has 0 0 0 [some (.ref 71), some (.int x15), some (.int 93)] [] h14 (fun r17 h18 => ∃ x19 : Int32, r17 = some (.int x19) ∧ ((cc_ok h18) ∧ ((((x19 = 0) → (cd_W X m_Not_strings kc ks 33 [some (.ref 71), none, some (.ref v2), some (.int (x15 + 1)), some (.int (v4 + 1)), none] [] h18 Q)) ∧ ((¬ x19 = 0) → (Q (some (.int (v4 + 1))) h18))))))))))))))))))))))))) : cd_W X m_Not_strings kc ks 33 [some (.ref 71), none, some (.ref v2), some (.int v3), some (.int v4), none] [] h Q := by
  refine cd_iload (i := 4) d_Not_strings_33 rfl ?_
  refine cd_aload_n (i := 2) (v := .ref v2) d_Not_strings_35 rfl rfl (cd_isr_ref _) ?_
  obtain ⟨n1, c2, H⟩ := H
  refine cd_alen d_Not_strings_36 rfl c2 ?_
  refine cd_icmp_ge (tgt := 89) d_Not_strings_37 (by decide) (fun t3 => ?_) (fun t3 => ?_)
  · replace H := H.1 t3
    refine cd_iconst (v := (-1)) d_Not_strings_89 (by decide) ?_
    exact cd_iret d_Not_strings_90 rfl rfl H
  · replace H := H.2 t3
    refine cd_aload_n (i := 0) (v := .ref 71) d_Not_strings_40 rfl rfl (cd_isr_ref _) ?_
    refine cd_iload_n (i := 3) d_Not_strings_41 rfl rfl ?_
    refine cd_bipush (v := 34) d_Not_strings_42 (by decide) ?_
    refine cd_callV (kc := kc) (ks := ks) (kc' := 0) (ks' := 0) (As := [.int v3, .int 34]) (S := []) d_Not_strings_44 ca_Not_strings_25 (cc_k71 F) rfl (Nat.le_of_ble_eq_true rfl) (Nat.le_of_ble_eq_true rfl) ?_
    refine cd_W.mono (fun r4 h5 H => ?_) H
    obtain ⟨x6, rfl, H⟩ := H
    obtain ⟨F7, H⟩ := H
    show cd_W X m_Not_strings kc ks 47 [some (.ref 71), none, some (.ref v2), some (.int v3), some (.int v4), none] [.int x6] h5 Q
    refine cd_if_eq (tgt := 89) d_Not_strings_47 (by decide) (fun t8 => ?_) (fun t8 => ?_)
    · replace H := H.1 t8
      refine cd_iconst (v := (-1)) d_Not_strings_89 (by decide) ?_
      exact cd_iret d_Not_strings_90 rfl rfl H
    · replace H := H.2 t8
      refine cd_aload_n (i := 2) (v := .ref v2) d_Not_strings_50 rfl rfl (cd_isr_ref _) ?_
      refine cd_iload (i := 4) d_Not_strings_51 rfl ?_
      refine cd_iload_n (i := 3) d_Not_strings_53 rfl rfl ?_
      obtain ⟨n9, c10, H⟩ := H
      obtain ⟨c11, H⟩ := H
      obtain ⟨c12, H⟩ := H
      refine cd_iasto (j := v4) d_Not_strings_54 rfl c10 c11 c12 ?_
      refine cd_aload_n (i := 0) (v := .ref 71) d_Not_strings_55 rfl rfl (cd_isr_ref _) ?_
      refine cd_iload_n (i := 3) d_Not_strings_56 rfl rfl ?_
      refine cd_callV (kc := kc) (ks := ks) (kc' := 0) (ks' := 0) (As := [.int v3]) (S := []) d_Not_strings_57 ca_Not_strings_32 (cc_k71 F7) rfl (Nat.le_of_ble_eq_true rfl) (Nat.le_of_ble_eq_true rfl) ?_
      refine cd_W.mono (fun r13 h14 H => ?_) H
      obtain ⟨x15, rfl, H⟩ := H
      obtain ⟨F16, H⟩ := H
      show cd_W X m_Not_strings kc ks 60 [some (.ref 71), none, some (.ref v2), some (.int v3), some (.int v4), none] [.int x15] h14 Q
      refine cd_istore (i := 5) d_Not_strings_60 (by decide) ?_
      show cd_W X m_Not_strings kc ks 62 [some (.ref 71), none, some (.ref v2), some (.int v3), some (.int v4), some (.int x15)] [] h14 Q
      refine cd_aload_n (i := 0) (v := .ref 71) d_Not_strings_62 rfl rfl (cd_isr_ref _) ?_
      refine cd_iload (i := 5) d_Not_strings_63 rfl ?_
      refine cd_bipush (v := 93) d_Not_strings_65 (by decide) ?_
      refine cd_callV (kc := kc) (ks := ks) (kc' := 0) (ks' := 0) (As := [.int x15, .int 93]) (S := []) d_Not_strings_67 ca_Not_strings_25 (cc_k71 F16) rfl (Nat.le_of_ble_eq_true rfl) (Nat.le_of_ble_eq_true rfl) ?_
      refine cd_W.mono (fun r17 h18 H => ?_) H
      obtain ⟨x19, rfl, H⟩ := H
      obtain ⟨F20, H⟩ := H
      show cd_W X m_Not_strings kc ks 70 [some (.ref 71), none, some (.ref v2), some (.int v3), some (.int v4), some (.int x15)] [.int x19] h18 Q
      refine cd_if_eq (tgt := 78) d_Not_strings_70 (by decide) (fun t21 => ?_) (fun t21 => ?_)
      · replace H := H.1 t21
        refine cd_iload (i := 5) d_Not_strings_78 rfl ?_
        refine cd_iconst (v := 1) d_Not_strings_80 (by decide) ?_
        refine cd_iadd d_Not_strings_81 ?_
        refine cd_istore_n (i := 3) d_Not_strings_82 rfl (by decide) ?_
        show cd_W X m_Not_strings kc ks 83 [some (.ref 71), none, some (.ref v2), some (.int (x15 + 1)), some (.int v4), some (.int x15)] [] h18 Q
        refine cd_iinc (i := 4) (v := (v4 + 1)) d_Not_strings_83 rfl (cd_inc1 _) (by decide) ?_
        show cd_W X m_Not_strings kc ks 86 [some (.ref 71), none, some (.ref v2), some (.int (x15 + 1)), some (.int (v4 + 1)), some (.int x15)] [] h18 Q
        refine cd_goto (tgt := 33) d_Not_strings_86 (by decide) ?_
        refine cd_W.drop (i := 5) ?_
        exact H
      · replace H := H.2 t21
        refine cd_iload (i := 4) d_Not_strings_73 rfl ?_
        refine cd_iconst (v := 1) d_Not_strings_75 (by decide) ?_
        refine cd_iadd d_Not_strings_76 ?_
        exact cd_iret d_Not_strings_77 rfl rfl H

abbrev m_Not_number : cd_M := (⟨"CertificateDesk$Notation", "number", "(I)I"⟩, prog_9_method_8_code, 4, some .int, 2, 41)
theorem d_Not_number_0 : decode prog_9_method_8_code 0 = .ok (.aload_n 0, 1) := by decide +kernel
theorem d_Not_number_1 : decode prog_9_method_8_code 1 = .ok (.iload_n 1, 1) := by decide +kernel
theorem d_Not_number_2 : decode prog_9_method_8_code 2 = .ok (.invokevirtual 40, 3) := by decide +kernel
abbrev m_Not_hasDigit : cd_M := (⟨"CertificateDesk$Notation", "hasDigit", "(I)Z"⟩, prog_9_method_15_code, 2, some .boolean, 1, 20)
theorem kw_2_62 : (Jvm.Cond.methodLink "CertificateDesk$Notation" (40 : Nat) ({ cls := "CertificateDesk$Notation", name := "hasDigit", desc := "(I)Z" } : Jvm.MethodName)) ∈ cd_tbl := tb_2 (List.mem_of_getElem? (i := 62) (by decide +kernel)) (by decide)
theorem kw_2_65 : (Jvm.Cond.code ({ cls := "CertificateDesk$Notation", name := "hasDigit", desc := "(I)Z" } : Jvm.MethodName) prog_9_method_15_code (2 : Nat) (Option.some Jvm.ClassFile.FieldType.boolean)) ∈ cd_tbl := tb_2 (List.mem_of_getElem? (i := 65) (by decide +kernel)) (by decide)
theorem kw_2_64 : (Jvm.Cond.instanceMethod ({ cls := "CertificateDesk$Notation", name := "hasDigit", desc := "(I)Z" } : Jvm.MethodName)) ∈ cd_tbl := tb_2 (List.mem_of_getElem? (i := 64) (by decide +kernel)) (by decide)
theorem kp_11 : Cond.selects "CertificateDesk$Notation" ⟨"CertificateDesk$Notation", "hasDigit", "(I)Z"⟩ ⟨"CertificateDesk$Notation", "hasDigit", "(I)Z"⟩ ∈ cd_tbl := cd_sel (List.mem_of_getElem? (i := 11) (by decide +kernel)) (by decide)
theorem ca_Not_number_40 {X : cd_E} : cd_CV X m_Not_number m_Not_hasDigit 40 1 6 := ⟨⟨by decide, kw_2_65, kw_1_3, ⟨by decide, by decide, by decide +kernel⟩, by decide, by decide⟩, ⟨_, rfl, rfl⟩, kw_2_64, kp_11, (Or.inl kw_2_62)⟩
theorem d_Not_number_5 : decode prog_9_method_8_code 5 = .ok (.ifCond .ne 5, 3) := by decide +kernel
theorem d_Not_number_10 : decode prog_9_method_8_code 10 = .ok (.iconst 0, 1) := by decide +kernel
theorem d_Not_number_11 : decode prog_9_method_8_code 11 = .ok (.istore_n 2, 1) := by decide +kernel
theorem d_Not_number_12 : decode prog_9_method_8_code 12 = .ok (.iload_n 1, 1) := by decide +kernel
theorem d_Not_number_13 : decode prog_9_method_8_code 13 = .ok (.istore_n 3, 1) := by decide +kernel
theorem d_Not_number_8 : decode prog_9_method_8_code 8 = .ok (.iconst (-1), 1) := by decide +kernel
theorem d_Not_number_9 : decode prog_9_method_8_code 9 = .ok (.ireturn, 1) := by decide +kernel
theorem g_Not_number {X : cd_E} {kc ks : Nat} {h : cd_H} {Q : Option Value → cd_H → Prop} {p1 : Int32} (F : cc_ok h) (H : cd_W X m_Not_hasDigit 0 0 0 [some (.ref 71), some (.int p1)] [] h (fun r1 h2 => ∃ x3 : Int32, r1 = some (.int x3) ∧ ((cc_ok h2) ∧ ((((¬ x3 = 0) → (cd_W X m_Not_number kc ks 14 [some (.ref 71), some (.int p1), some (.int 0), some (.int p1)] [] h2 Q)) ∧ ((x3 = 0) → (Q (some (.int (-1))) h2))))))) : cd_W X m_Not_number kc ks 0 [some (.ref 71), some (.int p1), none, none] [] h Q := by
  refine cd_aload_n (i := 0) (v := .ref 71) d_Not_number_0 rfl rfl (cd_isr_ref _) ?_
  refine cd_iload_n (i := 1) d_Not_number_1 rfl rfl ?_
  refine cd_callV (kc := kc) (ks := ks) (kc' := 0) (ks' := 0) (As := [.int p1]) (S := []) d_Not_number_2 ca_Not_number_40 (cc_k71 F) rfl (Nat.le_of_ble_eq_true rfl) (Nat.le_of_ble_eq_true rfl) ?_
  refine cd_W.mono (fun r1 h2 H => ?_) H
  obtain ⟨x3, rfl, H⟩ := H
  obtain ⟨F4, H⟩ := H
  show cd_W X m_Not_number kc ks 5 [some (.ref 71), some (.int p1), none, none] [.int x3] h2 Q
  refine cd_if_ne (tgt := 10) d_Not_number_5 (by decide) (fun t5 => ?_) (fun t5 => ?_)
  · replace H := H.1 t5
    refine cd_iconst (v := 0) d_Not_number_10 (by decide) ?_
    refine cd_istore_n (i := 2) d_Not_number_11 rfl (by decide) ?_
    show cd_W X m_Not_number kc ks 12 [some (.ref 71), some (.int p1), some (.int 0), none] [] h2 Q
    refine cd_iload_n (i := 1) d_Not_number_12 rfl rfl ?_
    refine cd_istore_n (i := 3) d_Not_number_13 rfl (by decide) ?_
    show cd_W X m_Not_number kc ks 14 [some (.ref 71), some (.int p1), some (.int 0), some (.int p1)] [] h2 Q
    exact H
  · replace H := H.2 t5
    refine cd_iconst (v := (-1)) d_Not_number_8 (by decide) ?_
    exact cd_iret d_Not_number_9 rfl rfl H

theorem d_Not_number_14 : decode prog_9_method_8_code 14 = .ok (.iload_n 3, 1) := by decide +kernel
theorem d_Not_number_15 : decode prog_9_method_8_code 15 = .ok (.iload_n 1, 1) := by decide +kernel
theorem d_Not_number_16 : decode prog_9_method_8_code 16 = .ok (.bipush 9, 2) := by decide +kernel
theorem d_Not_number_18 : decode prog_9_method_8_code 18 = .ok (.iadd, 1) := by decide +kernel
theorem d_Not_number_19 : decode prog_9_method_8_code 19 = .ok (.if_icmp .ge 32, 3) := by decide +kernel
theorem d_Not_number_51 : decode prog_9_method_8_code 51 = .ok (.iload_n 2, 1) := by decide +kernel
theorem d_Not_number_52 : decode prog_9_method_8_code 52 = .ok (.ireturn, 1) := by decide +kernel
theorem d_Not_number_22 : decode prog_9_method_8_code 22 = .ok (.aload_n 0, 1) := by decide +kernel
theorem d_Not_number_23 : decode prog_9_method_8_code 23 = .ok (.iload_n 3, 1) := by decide +kernel
theorem d_Not_number_24 : decode prog_9_method_8_code 24 = .ok (.invokevirtual 40, 3) := by decide +kernel
theorem d_Not_number_27 : decode prog_9_method_8_code 27 = .ok (.ifCond .eq 24, 3) := by decide +kernel
theorem d_Not_number_30 : decode prog_9_method_8_code 30 = .ok (.bipush 10, 2) := by decide +kernel
theorem d_Not_number_32 : decode prog_9_method_8_code 32 = .ok (.iload_n 2, 1) := by decide +kernel
theorem d_Not_number_33 : decode prog_9_method_8_code 33 = .ok (.imul, 1) := by decide +kernel
theorem d_Not_number_34 : decode prog_9_method_8_code 34 = .ok (.aload_n 0, 1) := by decide +kernel
theorem d_Not_number_35 : decode prog_9_method_8_code 35 = .ok (.getfield 11, 3) := by decide +kernel
theorem d_Not_number_38 : decode prog_9_method_8_code 38 = .ok (.iload_n 3, 1) := by decide +kernel
theorem d_Not_number_39 : decode prog_9_method_8_code 39 = .ok (.caload, 1) := by decide +kernel
theorem d_Not_number_40 : decode prog_9_method_8_code 40 = .ok (.bipush 48, 2) := by decide +kernel
theorem d_Not_number_42 : decode prog_9_method_8_code 42 = .ok (.isub, 1) := by decide +kernel
theorem d_Not_number_43 : decode prog_9_method_8_code 43 = .ok (.iadd, 1) := by decide +kernel
theorem d_Not_number_44 : decode prog_9_method_8_code 44 = .ok (.istore_n 2, 1) := by decide +kernel
theorem d_Not_number_45 : decode prog_9_method_8_code 45 = .ok (.iinc 3 1, 3) := by decide +kernel
theorem d_Not_number_48 : decode prog_9_method_8_code 48 = .ok (.goto (-34), 3) := by decide +kernel
theorem g_Not_number_14 {X : cd_E} {kc ks : Nat} {h : cd_H} {Q : Option Value → cd_H → Prop} {v1 : Int32} {v2 : Int32} {v3 : Int32} (F : cc_ok h) (H : ((((v1 + 9) ≤ v3) → (Q (some (.int v2)) h)) ∧ ((¬ (v1 + 9) ≤ v3) → (cd_W X m_Not_hasDigit 0 0 0 [some (.ref 71), some (.int v3)] [] h (fun r2 h3 => ∃ x4 : Int32, r2 = some (.int x4) ∧ ((cc_ok h3) ∧ ((((x4 = 0) → (Q (some (.int v2)) h3)) ∧ ((¬ x4 = 0) → ((vp_in v3 96) ∧ (cd_W X m_Not_number kc ks 14 [some (.ref 71), some (.int v1), some (.int ((10 * v2) + ((cd_i h3 72 v3.toNatClampNeg) - 48))), some (.int (v3 + 1))] [] h3 Q))))))))))) : cd_W X m_Not_number kc ks 14 [some (.ref 71), some (.int v1), some (.int v2), some (.int v3)] [] h Q := by
  refine cd_iload_n (i := 3) d_Not_number_14 rfl rfl ?_
  refine cd_iload_n (i := 1) d_Not_number_15 rfl rfl ?_
  refine cd_bipush (v := 9) d_Not_number_16 (by decide) ?_
  refine cd_iadd d_Not_number_18 ?_
  refine cd_icmp_ge (tgt := 51) d_Not_number_19 (by decide) (fun t1 => ?_) (fun t1 => ?_)
  · replace H := H.1 t1
    refine cd_iload_n (i := 2) d_Not_number_51 rfl rfl ?_
    exact cd_iret d_Not_number_52 rfl rfl H
  · replace H := H.2 t1
    refine cd_aload_n (i := 0) (v := .ref 71) d_Not_number_22 rfl rfl (cd_isr_ref _) ?_
    refine cd_iload_n (i := 3) d_Not_number_23 rfl rfl ?_
    refine cd_callV (kc := kc) (ks := ks) (kc' := 0) (ks' := 0) (As := [.int v3]) (S := []) d_Not_number_24 ca_Not_number_40 (cc_k71 F) rfl (Nat.le_of_ble_eq_true rfl) (Nat.le_of_ble_eq_true rfl) ?_
    refine cd_W.mono (fun r2 h3 H => ?_) H
    obtain ⟨x4, rfl, H⟩ := H
    obtain ⟨F5, H⟩ := H
    show cd_W X m_Not_number kc ks 27 [some (.ref 71), some (.int v1), some (.int v2), some (.int v3)] [.int x4] h3 Q
    refine cd_if_eq (tgt := 51) d_Not_number_27 (by decide) (fun t6 => ?_) (fun t6 => ?_)
    · replace H := H.1 t6
      refine cd_iload_n (i := 2) d_Not_number_51 rfl rfl ?_
      exact cd_iret d_Not_number_52 rfl rfl H
    · replace H := H.2 t6
      refine cd_bipush (v := 10) d_Not_number_30 (by decide) ?_
      refine cd_iload_n (i := 2) d_Not_number_32 rfl rfl ?_
      refine cd_imul d_Not_number_33 ?_
      refine cd_aload_n (i := 0) (v := .ref 71) d_Not_number_34 rfl rfl (cd_isr_ref _) ?_
      refine cd_get (v := .ref 72) d_Not_number_35 fl_Not_11 (cc_k71 F5) (congrArg va_rf (cc_r71_0 F5)) ?_
      refine cd_iload_n (i := 3) d_Not_number_38 rfl rfl ?_
      obtain ⟨c7, H⟩ := H
      refine cd_cald (j := v3) d_Not_number_39 rfl (cc_k72 F5) c7 ?_
      refine cd_bipush (v := 48) d_Not_number_40 (by decide) ?_
      refine cd_isub d_Not_number_42 ?_
      refine cd_iadd d_Not_number_43 ?_
      refine cd_istore_n (i := 2) d_Not_number_44 rfl (by decide) ?_
      show cd_W X m_Not_number kc ks 45 [some (.ref 71), some (.int v1), some (.int ((10 * v2) + ((cd_i h3 72 v3.toNatClampNeg) - 48))), some (.int v3)] [] h3 Q
      refine cd_iinc (i := 3) (v := (v3 + 1)) d_Not_number_45 rfl (cd_inc1 _) (by decide) ?_
      show cd_W X m_Not_number kc ks 48 [some (.ref 71), some (.int v1), some (.int ((10 * v2) + ((cd_i h3 72 v3.toNatClampNeg) - 48))), some (.int (v3 + 1))] [] h3 Q
      refine cd_goto (tgt := 14) d_Not_number_48 (by decide) ?_
      exact H

theorem d_Not_spells_0 : decode prog_9_method_9_code 0 = .ok (.aload_n 2, 1) := by decide +kernel
theorem d_Not_spells_1 : decode prog_9_method_9_code 1 = .ok (.invokevirtual 44, 3) := by decide +kernel
theorem kw_2_75 : (Jvm.Cond.methodLink "CertificateDesk$Notation" (44 : Nat) ({ cls := "java/lang/String", name := "length", desc := "()I" } : Jvm.MethodName)) ∈ cd_tbl := tb_2 (List.mem_of_getElem? (i := 75) (by decide +kernel)) (by decide)
theorem ca_Not_spells_44 {X : cd_E} : cd_CV X m_Not_spells m_Str_length 44 0 13 := ⟨⟨by decide, kw_2_78, kw_1_14, ⟨by decide, by decide, by decide +kernel⟩, by decide, by decide⟩, ⟨_, rfl, rfl⟩, kw_2_76, kw_2_77, (Or.inl kw_2_75)⟩
theorem d_Not_spells_4 : decode prog_9_method_9_code 4 = .ok (.istore_n 3, 1) := by decide +kernel
theorem d_Not_spells_5 : decode prog_9_method_9_code 5 = .ok (.aload_n 0, 1) := by decide +kernel
theorem d_Not_spells_6 : decode prog_9_method_9_code 6 = .ok (.iload_n 1, 1) := by decide +kernel
theorem d_Not_spells_7 : decode prog_9_method_9_code 7 = .ok (.bipush 34, 2) := by decide +kernel
theorem d_Not_spells_9 : decode prog_9_method_9_code 9 = .ok (.invokevirtual 25, 3) := by decide +kernel
theorem ca_Not_spells_25 {X : cd_E} : cd_CV X m_Not_spells m_Not_has 25 2 6 := ⟨⟨by decide, kw_2_45, kw_1_3, ⟨by decide, by decide, by decide +kernel⟩, by decide, by decide⟩, ⟨_, rfl, rfl⟩, kw_2_44, kp_6, (Or.inl kw_2_42)⟩
theorem d_Not_spells_12 : decode prog_9_method_9_code 12 = .ok (.ifCond .eq 17, 3) := by decide +kernel
theorem d_Not_spells_29 : decode prog_9_method_9_code 29 = .ok (.iconst 0, 1) := by decide +kernel
theorem d_Not_spells_30 : decode prog_9_method_9_code 30 = .ok (.ireturn, 1) := by decide +kernel
theorem d_Not_spells_15 : decode prog_9_method_9_code 15 = .ok (.aload_n 0, 1) := by decide +kernel
theorem d_Not_spells_16 : decode prog_9_method_9_code 16 = .ok (.iload_n 1, 1) := by decide +kernel
theorem d_Not_spells_17 : decode prog_9_method_9_code 17 = .ok (.iconst 1, 1) := by decide +kernel
theorem d_Not_spells_18 : decode prog_9_method_9_code 18 = .ok (.iadd, 1) := by decide +kernel
theorem d_Not_spells_19 : decode prog_9_method_9_code 19 = .ok (.iload_n 3, 1) := by decide +kernel
theorem d_Not_spells_20 : decode prog_9_method_9_code 20 = .ok (.iadd, 1) := by decide +kernel
theorem d_Not_spells_21 : decode prog_9_method_9_code 21 = .ok (.bipush 34, 2) := by decide +kernel
theorem d_Not_spells_23 : decode prog_9_method_9_code 23 = .ok (.invokevirtual 25, 3) := by decide +kernel
theorem d_Not_spells_26 : decode prog_9_method_9_code 26 = .ok (.ifCond .ne 5, 3) := by decide +kernel
theorem d_Not_spells_31 : decode prog_9_method_9_code 31 = .ok (.iconst 0, 1) := by decide +kernel
theorem d_Not_spells_32 : decode prog_9_method_9_code 32 = .ok (.istore 4, 2) := by decide +kernel
theorem g_Not_spells {X : cd_E} {kc ks : Nat} {h : cd_H} {Q : Option Value → cd_H → Prop} {p1 : Int32} {p2 : Nat} (F : cc_ok h) (H : (cd_k h p2 = some (.inl 13)) ∧ (cd_W X m_Str_length 0 0 0 [some (.ref p2)] [] h (fun r2 h3 => ∃ x4 : Int32, r2 = some (.int x4) ∧ ((cc_ok h3) ∧ (cd_W X m_Not_has 0 0 0 [some (.ref 71), some (.int p1), some (.int 34)] [] h3 (fun r6 h7 => ∃ x8 : Int32, r6 = some (.int x8) ∧ ((cc_ok h7) ∧ ((((x8 = 0) → (Q (some (.int 0)) h7)) ∧ ((¬ x8 = 0) → (cd_W X m_Not_has 0 0 0 [some (.ref 71), some (.int ((p1 + 1) + x4)), some (.int 34)] [] h7 (fun r11 h12 => ∃ x13 : Int32, r11 = some (.int x13) ∧ ((cc_ok h12) ∧ ((((¬ x13 = 0) → (cd_W X m_Not_spells kc ks 34 [some (.ref 71), some (.int p1), some (.ref p2), some (.int x4), some (.int 0)] [] h12 Q)) ∧ ((x13 = 0) → (Q (some (.int 0)) h12))))))))))))))))) : cd_W X m_Not_spells kc ks 0 [some (.ref 71), some (.int p1), some (.ref p2), none, none] [] h Q := by
  refine cd_aload_n (i := 2) (v := .ref p2) d_Not_spells_0 rfl rfl (cd_isr_ref _) ?_
  obtain ⟨c1, H⟩ := H
  refine cd_callV (kc := kc) (ks := ks) (kc' := 0) (ks' := 0) (As := []) (S := []) d_Not_spells_1 ca_Not_spells_44 c1 rfl (Nat.le_of_ble_eq_true rfl) (Nat.le_of_ble_eq_true rfl) ?_
  refine cd_W.mono (fun r2 h3 H => ?_) H
  obtain ⟨x4, rfl, H⟩ := H
  obtain ⟨F5, H⟩ := H
  show cd_W X m_Not_spells kc ks 4 [some (.ref 71), some (.int p1), some (.ref p2), none, none] [.int x4] h3 Q
  refine cd_istore_n (i := 3) d_Not_spells_4 rfl (by decide) ?_
  show cd_W X m_Not_spells kc ks 5 [some (.ref 71), some (.int p1), some (.ref p2), some (.int x4), none] [] h3 Q
  refine cd_aload_n (i := 0) (v := .ref 71) d_Not_spells_5 rfl rfl (cd_isr_ref _) ?_
  refine cd_iload_n (i := 1) d_Not_spells_6 rfl rfl ?_
  refine cd_bipush (v := 34) d_Not_spells_7 (by decide) ?_
  refine cd_callV (kc := kc) (ks := ks) (kc' := 0) (ks' := 0) (As := [.int p1, .int 34]) (S := []) d_Not_spells_9 ca_Not_spells_25 (cc_k71 F5) rfl (Nat.le_of_ble_eq_true rfl) (Nat.le_of_ble_eq_true rfl) ?_
  refine cd_W.mono (fun r6 h7 H => ?_) H
  obtain ⟨x8, rfl, H⟩ := H
  obtain ⟨F9, H⟩ := H
  show cd_W X m_Not_spells kc ks 12 [some (.ref 71), some (.int p1), some (.ref p2), some (.int x4), none] [.int x8] h7 Q
  refine cd_if_eq (tgt := 29) d_Not_spells_12 (by decide) (fun t10 => ?_) (fun t10 => ?_)
  · replace H := H.1 t10
    refine cd_iconst (v := 0) d_Not_spells_29 (by decide) ?_
    exact cd_iret d_Not_spells_30 rfl rfl H
  · replace H := H.2 t10
    refine cd_aload_n (i := 0) (v := .ref 71) d_Not_spells_15 rfl rfl (cd_isr_ref _) ?_
    refine cd_iload_n (i := 1) d_Not_spells_16 rfl rfl ?_
    refine cd_iconst (v := 1) d_Not_spells_17 (by decide) ?_
    refine cd_iadd d_Not_spells_18 ?_
    refine cd_iload_n (i := 3) d_Not_spells_19 rfl rfl ?_
    refine cd_iadd d_Not_spells_20 ?_
    refine cd_bipush (v := 34) d_Not_spells_21 (by decide) ?_
    refine cd_callV (kc := kc) (ks := ks) (kc' := 0) (ks' := 0) (As := [.int ((p1 + 1) + x4), .int 34]) (S := []) d_Not_spells_23 ca_Not_spells_25 (cc_k71 F9) rfl (Nat.le_of_ble_eq_true rfl) (Nat.le_of_ble_eq_true rfl) ?_
    refine cd_W.mono (fun r11 h12 H => ?_) H
    obtain ⟨x13, rfl, H⟩ := H
    obtain ⟨F14, H⟩ := H
    show cd_W X m_Not_spells kc ks 26 [some (.ref 71), some (.int p1), some (.ref p2), some (.int x4), none] [.int x13] h12 Q
    refine cd_if_ne (tgt := 31) d_Not_spells_26 (by decide) (fun t15 => ?_) (fun t15 => ?_)
    · replace H := H.1 t15
      refine cd_iconst (v := 0) d_Not_spells_31 (by decide) ?_
      refine cd_istore (i := 4) d_Not_spells_32 (by decide) ?_
      show cd_W X m_Not_spells kc ks 34 [some (.ref 71), some (.int p1), some (.ref p2), some (.int x4), some (.int 0)] [] h12 Q
      exact H
    · replace H := H.2 t15
      refine cd_iconst (v := 0) d_Not_spells_29 (by decide) ?_
      exact cd_iret d_Not_spells_30 rfl rfl H

theorem d_Not_spells_34 : decode prog_9_method_9_code 34 = .ok (.iload 4, 2) := by decide +kernel
theorem d_Not_spells_36 : decode prog_9_method_9_code 36 = .ok (.iload_n 3, 1) := by decide +kernel
theorem d_Not_spells_37 : decode prog_9_method_9_code 37 = .ok (.if_icmp .ge 30, 3) := by decide +kernel
theorem d_Not_spells_67 : decode prog_9_method_9_code 67 = .ok (.iconst 1, 1) := by decide +kernel
theorem d_Not_spells_68 : decode prog_9_method_9_code 68 = .ok (.ireturn, 1) := by decide +kernel
theorem d_Not_spells_40 : decode prog_9_method_9_code 40 = .ok (.aload_n 0, 1) := by decide +kernel
theorem d_Not_spells_41 : decode prog_9_method_9_code 41 = .ok (.iload_n 1, 1) := by decide +kernel
theorem d_Not_spells_42 : decode prog_9_method_9_code 42 = .ok (.iconst 1, 1) := by decide +kernel
theorem d_Not_spells_43 : decode prog_9_method_9_code 43 = .ok (.iadd, 1) := by decide +kernel
theorem d_Not_spells_44 : decode prog_9_method_9_code 44 = .ok (.iload 4, 2) := by decide +kernel
theorem d_Not_spells_46 : decode prog_9_method_9_code 46 = .ok (.iadd, 1) := by decide +kernel
theorem d_Not_spells_47 : decode prog_9_method_9_code 47 = .ok (.aload_n 2, 1) := by decide +kernel
theorem d_Not_spells_48 : decode prog_9_method_9_code 48 = .ok (.iload 4, 2) := by decide +kernel
theorem d_Not_spells_50 : decode prog_9_method_9_code 50 = .ok (.invokevirtual 49, 3) := by decide +kernel
theorem kw_2_85 : (Jvm.Cond.methodLink "CertificateDesk$Notation" (49 : Nat) ({ cls := "java/lang/String", name := "charAt", desc := "(I)C" } : Jvm.MethodName)) ∈ cd_tbl := tb_2 (List.mem_of_getElem? (i := 85) (by decide +kernel)) (by decide)
theorem ca_Not_spells_49 {X : cd_E} : cd_CV X m_Not_spells m_Str_charAt 49 1 13 := ⟨⟨by decide, kw_2_88, kw_1_14, ⟨by decide, by decide, by decide +kernel⟩, by decide, by decide⟩, ⟨_, rfl, rfl⟩, kw_2_86, kw_2_87, (Or.inl kw_2_85)⟩
theorem d_Not_spells_53 : decode prog_9_method_9_code 53 = .ok (.invokevirtual 25, 3) := by decide +kernel
theorem d_Not_spells_56 : decode prog_9_method_9_code 56 = .ok (.ifCond .ne 5, 3) := by decide +kernel
theorem d_Not_spells_61 : decode prog_9_method_9_code 61 = .ok (.iinc 4 1, 3) := by decide +kernel
theorem d_Not_spells_64 : decode prog_9_method_9_code 64 = .ok (.goto (-30), 3) := by decide +kernel
theorem d_Not_spells_59 : decode prog_9_method_9_code 59 = .ok (.iconst 0, 1) := by decide +kernel
theorem d_Not_spells_60 : decode prog_9_method_9_code 60 = .ok (.ireturn, 1) := by decide +kernel
theorem g_Not_spells_34 {X : cd_E} {kc ks : Nat} {h : cd_H} {Q : Option Value → cd_H → Prop} {v1 : Int32} {v2 : Nat} {v3 : Int32} {v4 : Int32} (F : cc_ok h) (H : (((v3 ≤ v4) → (Q (some (.int 1)) h)) ∧ ((¬ v3 ≤ v4) → ((cd_k h v2 = some (.inl 13)) ∧ (cd_W X m_Str_charAt 0 0 0 [some (.ref v2), some (.int v4)] [] h (fun r3 h4 => ∃ x5 : Int32, r3 = some (.int x5) ∧ ((cc_ok h4) ∧ (cd_W X m_Not_has 0 0 0 [some (.ref 71), some (.int ((v1 + 1) + v4)), some (.int x5)] [] h4 (fun r7 h8 => ∃ x9 : Int32, r7 = some (.int x9) ∧ ((cc_ok h8) ∧ ((((¬ x9 = 0) → (cd_W X m_Not_spells kc ks 34 [some (.ref 71), some (.int v1), some (.ref v2), some (.int v3), some (.int (v4 + 1))] [] h8 Q)) ∧ ((x9 = 0) → (Q (some (.int 0)) h8)))))))))))))) : cd_W X m_Not_spells kc ks 34 [some (.ref 71), some (.int v1), some (.ref v2), some (.int v3), some (.int v4)] [] h Q := by
  refine cd_iload (i := 4) d_Not_spells_34 rfl ?_
  refine cd_iload_n (i := 3) d_Not_spells_36 rfl rfl ?_
  refine cd_icmp_ge (tgt := 67) d_Not_spells_37 (by decide) (fun t1 => ?_) (fun t1 => ?_)
  · replace H := H.1 t1
    refine cd_iconst (v := 1) d_Not_spells_67 (by decide) ?_
    exact cd_iret d_Not_spells_68 rfl rfl H
  · replace H := H.2 t1
    refine cd_aload_n (i := 0) (v := .ref 71) d_Not_spells_40 rfl rfl (cd_isr_ref _) ?_
    refine cd_iload_n (i := 1) d_Not_spells_41 rfl rfl ?_
    refine cd_iconst (v := 1) d_Not_spells_42 (by decide) ?_
    refine cd_iadd d_Not_spells_43 ?_
    refine cd_iload (i := 4) d_Not_spells_44 rfl ?_
    refine cd_iadd d_Not_spells_46 ?_
    refine cd_aload_n (i := 2) (v := .ref v2) d_Not_spells_47 rfl rfl (cd_isr_ref _) ?_
    refine cd_iload (i := 4) d_Not_spells_48 rfl ?_
    obtain ⟨c2, H⟩ := H
    refine cd_callV (kc := kc) (ks := ks) (kc' := 0) (ks' := 0) (As := [.int v4]) (S := [.int ((v1 + 1) + v4), .ref 71]) d_Not_spells_50 ca_Not_spells_49 c2 rfl (Nat.le_of_ble_eq_true rfl) (Nat.le_of_ble_eq_true rfl) ?_
    refine cd_W.mono (fun r3 h4 H => ?_) H
    obtain ⟨x5, rfl, H⟩ := H
    obtain ⟨F6, H⟩ := H
    show cd_W X m_Not_spells kc ks 53 [some (.ref 71), some (.int v1), some (.ref v2), some (.int v3), some (.int v4)] [.int x5, .int ((v1 + 1) + v4), .ref 71] h4 Q
    refine cd_callV (kc := kc) (ks := ks) (kc' := 0) (ks' := 0) (As := [.int ((v1 + 1) + v4), .int x5]) (S := []) d_Not_spells_53 ca_Not_spells_25 (cc_k71 F6) rfl (Nat.le_of_ble_eq_true rfl) (Nat.le_of_ble_eq_true rfl) ?_
    refine cd_W.mono (fun r7 h8 H => ?_) H
    obtain ⟨x9, rfl, H⟩ := H
    obtain ⟨F10, H⟩ := H
    show cd_W X m_Not_spells kc ks 56 [some (.ref 71), some (.int v1), some (.ref v2), some (.int v3), some (.int v4)] [.int x9] h8 Q
    refine cd_if_ne (tgt := 61) d_Not_spells_56 (by decide) (fun t11 => ?_) (fun t11 => ?_)
    · replace H := H.1 t11
      refine cd_iinc (i := 4) (v := (v4 + 1)) d_Not_spells_61 rfl (cd_inc1 _) (by decide) ?_
      show cd_W X m_Not_spells kc ks 64 [some (.ref 71), some (.int v1), some (.ref v2), some (.int v3), some (.int (v4 + 1))] [] h8 Q
      refine cd_goto (tgt := 34) d_Not_spells_64 (by decide) ?_
      exact H
    · replace H := H.2 t11
      refine cd_iconst (v := 0) d_Not_spells_59 (by decide) ?_
      exact cd_iret d_Not_spells_60 rfl rfl H

abbrev m_Not_areSame : cd_M := (⟨"CertificateDesk$Notation", "areSame", "(II)Z"⟩, prog_9_method_10_code, 5, some .boolean, 4, 86)
theorem d_Not_areSame_0 : decode prog_9_method_10_code 0 = .ok (.aload_n 0, 1) := by decide +kernel
theorem d_Not_areSame_1 : decode prog_9_method_10_code 1 = .ok (.iload_n 1, 1) := by decide +kernel
theorem d_Not_areSame_2 : decode prog_9_method_10_code 2 = .ok (.invokevirtual 53, 3) := by decide +kernel
abbrev m_Not_stringLength : cd_M := (⟨"CertificateDesk$Notation", "stringLength", "(I)I"⟩, prog_9_method_12_code, 3, some .int, 3, 64)
theorem kw_3_11 : (Jvm.Cond.methodLink "CertificateDesk$Notation" (53 : Nat) ({ cls := "CertificateDesk$Notation", name := "stringLength", desc := "(I)I" } : Jvm.MethodName)) ∈ cd_tbl := tb_3 (List.mem_of_getElem? (i := 11) (by decide +kernel)) (by decide)
theorem kw_3_14 : (Jvm.Cond.code ({ cls := "CertificateDesk$Notation", name := "stringLength", desc := "(I)I" } : Jvm.MethodName) prog_9_method_12_code (3 : Nat) (Option.some Jvm.ClassFile.FieldType.int)) ∈ cd_tbl := tb_3 (List.mem_of_getElem? (i := 14) (by decide +kernel)) (by decide)
theorem kw_3_12 : (Jvm.Cond.instanceMethod ({ cls := "CertificateDesk$Notation", name := "stringLength", desc := "(I)I" } : Jvm.MethodName)) ∈ cd_tbl := tb_3 (List.mem_of_getElem? (i := 12) (by decide +kernel)) (by decide)
theorem kw_3_13 : (Jvm.Cond.selects "CertificateDesk$Notation" ({ cls := "CertificateDesk$Notation", name := "stringLength", desc := "(I)I" } : Jvm.MethodName) ({ cls := "CertificateDesk$Notation", name := "stringLength", desc := "(I)I" } : Jvm.MethodName)) ∈ cd_tbl := tb_3 (List.mem_of_getElem? (i := 13) (by decide +kernel)) (by decide)
theorem ca_Not_areSame_53 {X : cd_E} : cd_CV X m_Not_areSame m_Not_stringLength 53 1 6 := ⟨⟨by decide, kw_3_14, kw_1_3, ⟨by decide, by decide, by decide +kernel⟩, by decide, by decide⟩, ⟨_, rfl, rfl⟩, kw_3_12, kw_3_13, (Or.inl kw_3_11)⟩
theorem d_Not_areSame_5 : decode prog_9_method_10_code 5 = .ok (.istore_n 3, 1) := by decide +kernel
theorem d_Not_areSame_6 : decode prog_9_method_10_code 6 = .ok (.iload_n 3, 1) := by decide +kernel
theorem d_Not_areSame_7 : decode prog_9_method_10_code 7 = .ok (.ifCond .lt 12, 3) := by decide +kernel
theorem d_Not_areSame_19 : decode prog_9_method_10_code 19 = .ok (.iconst 0, 1) := by decide +kernel
theorem d_Not_areSame_20 : decode prog_9_method_10_code 20 = .ok (.ireturn, 1) := by decide +kernel
theorem d_Not_areSame_10 : decode prog_9_method_10_code 10 = .ok (.iload_n 3, 1) := by decide +kernel
theorem d_Not_areSame_11 : decode prog_9_method_10_code 11 = .ok (.aload_n 0, 1) := by decide +kernel
theorem d_Not_areSame_12 : decode prog_9_method_10_code 12 = .ok (.iload_n 2, 1) := by decide +kernel
theorem d_Not_areSame_13 : decode prog_9_method_10_code 13 = .ok (.invokevirtual 53, 3) := by decide +kernel
theorem d_Not_areSame_16 : decode prog_9_method_10_code 16 = .ok (.if_icmp .eq 5, 3) := by decide +kernel
theorem d_Not_areSame_21 : decode prog_9_method_10_code 21 = .ok (.iconst 1, 1) := by decide +kernel
theorem d_Not_areSame_22 : decode prog_9_method_10_code 22 = .ok (.istore 4, 2) := by decide +kernel
theorem g_Not_areSame {X : cd_E} {kc ks : Nat} {h : cd_H} {Q : Option Value → cd_H → Prop} {p1 : Int32} {p2 : Int32} (F : cc_ok h) (H : cd_W X m_Not_stringLength 0 0 0 [some (.ref 71), some (.int p1), none] [] h (fun r1 h2 => ∃ x3 : Int32, r1 = some (.int x3) ∧ ((cc_ok h2) ∧ ((((x3 < 0) → (Q (some (.int 0)) h2)) ∧ ((¬ x3 < 0) → (cd_W X m_Not_stringLength 0 0 0 [some (.ref 71), some (.int p2), none] [] h2 (fun r6 h7 => ∃ x8 : Int32, r6 = some (.int x8) ∧ ((cc_ok h7) ∧ ((((x3 = x8) → (cd_W X m_Not_areSame kc ks 24 [some (.ref 71), some (.int p1), some (.int p2), some (.int x3), some (.int 1)] [] h7 Q)) ∧ ((¬ x3 = x8) → (Q (some (.int 0)) h7))))))))))))) : cd_W X m_Not_areSame kc ks 0 [some (.ref 71), some (.int p1), some (.int p2), none, none] [] h Q := by
  refine cd_aload_n (i := 0) (v := .ref 71) d_Not_areSame_0 rfl rfl (cd_isr_ref _) ?_
  refine cd_iload_n (i := 1) d_Not_areSame_1 rfl rfl ?_
  refine cd_callV (kc := kc) (ks := ks) (kc' := 0) (ks' := 0) (As := [.int p1]) (S := []) d_Not_areSame_2 ca_Not_areSame_53 (cc_k71 F) rfl (Nat.le_of_ble_eq_true rfl) (Nat.le_of_ble_eq_true rfl) ?_
  refine cd_W.mono (fun r1 h2 H => ?_) H
  obtain ⟨x3, rfl, H⟩ := H
  obtain ⟨F4, H⟩ := H
  show cd_W X m_Not_areSame kc ks 5 [some (.ref 71), some (.int p1), some (.int p2), none, none] [.int x3] h2 Q
  refine cd_istore_n (i := 3) d_Not_areSame_5 rfl (by decide) ?_
  show cd_W X m_Not_areSame kc ks 6 [some (.ref 71), some (.int p1), some (.int p2), some (.int x3), none] [] h2 Q
  refine cd_iload_n (i := 3) d_Not_areSame_6 rfl rfl ?_
  refine cd_if_lt (tgt := 19) d_Not_areSame_7 (by decide) (fun t5 => ?_) (fun t5 => ?_)
  · replace H := H.1 t5
    refine cd_iconst (v := 0) d_Not_areSame_19 (by decide) ?_
    exact cd_iret d_Not_areSame_20 rfl rfl H
  · replace H := H.2 t5
    refine cd_iload_n (i := 3) d_Not_areSame_10 rfl rfl ?_
    refine cd_aload_n (i := 0) (v := .ref 71) d_Not_areSame_11 rfl rfl (cd_isr_ref _) ?_
    refine cd_iload_n (i := 2) d_Not_areSame_12 rfl rfl ?_
    refine cd_callV (kc := kc) (ks := ks) (kc' := 0) (ks' := 0) (As := [.int p2]) (S := [.int x3]) d_Not_areSame_13 ca_Not_areSame_53 (cc_k71 F4) rfl (Nat.le_of_ble_eq_true rfl) (Nat.le_of_ble_eq_true rfl) ?_
    refine cd_W.mono (fun r6 h7 H => ?_) H
    obtain ⟨x8, rfl, H⟩ := H
    obtain ⟨F9, H⟩ := H
    show cd_W X m_Not_areSame kc ks 16 [some (.ref 71), some (.int p1), some (.int p2), some (.int x3), none] [.int x8, .int x3] h7 Q
    refine cd_icmp_eq (tgt := 21) d_Not_areSame_16 (by decide) (fun t10 => ?_) (fun t10 => ?_)
    · replace H := H.1 t10
      refine cd_iconst (v := 1) d_Not_areSame_21 (by decide) ?_
      refine cd_istore (i := 4) d_Not_areSame_22 (by decide) ?_
      show cd_W X m_Not_areSame kc ks 24 [some (.ref 71), some (.int p1), some (.int p2), some (.int x3), some (.int 1)] [] h7 Q
      exact H
    · replace H := H.2 t10
      refine cd_iconst (v := 0) d_Not_areSame_19 (by decide) ?_
      exact cd_iret d_Not_areSame_20 rfl rfl H

theorem d_Not_areSame_24 : decode prog_9_method_10_code 24 = .ok (.iload 4, 2) := by decide +kernel
theorem d_Not_areSame_26 : decode prog_9_method_10_code 26 = .ok (.iload_n 3, 1) := by decide +kernel
theorem d_Not_areSame_27 : decode prog_9_method_10_code 27 = .ok (.if_icmp .gt 32, 3) := by decide +kernel
theorem d_Not_areSame_59 : decode prog_9_method_10_code 59 = .ok (.iconst 1, 1) := by decide +kernel
theorem d_Not_areSame_60 : decode prog_9_method_10_code 60 = .ok (.ireturn, 1) := by decide +kernel
theorem d_Not_areSame_30 : decode prog_9_method_10_code 30 = .ok (.aload_n 0, 1) := by decide +kernel
theorem d_Not_areSame_31 : decode prog_9_method_10_code 31 = .ok (.getfield 11, 3) := by decide +kernel
theorem d_Not_areSame_34 : decode prog_9_method_10_code 34 = .ok (.iload_n 1, 1) := by decide +kernel
theorem d_Not_areSame_35 : decode prog_9_method_10_code 35 = .ok (.iload 4, 2) := by decide +kernel
theorem d_Not_areSame_37 : decode prog_9_method_10_code 37 = .ok (.iadd, 1) := by decide +kernel
theorem d_Not_areSame_38 : decode prog_9_method_10_code 38 = .ok (.caload, 1) := by decide +kernel
theorem d_Not_areSame_39 : decode prog_9_method_10_code 39 = .ok (.aload_n 0, 1) := by decide +kernel
theorem d_Not_areSame_40 : decode prog_9_method_10_code 40 = .ok (.getfield 11, 3) := by decide +kernel
theorem d_Not_areSame_43 : decode prog_9_method_10_code 43 = .ok (.iload_n 2, 1) := by decide +kernel
theorem d_Not_areSame_44 : decode prog_9_method_10_code 44 = .ok (.iload 4, 2) := by decide +kernel
theorem d_Not_areSame_46 : decode prog_9_method_10_code 46 = .ok (.iadd, 1) := by decide +kernel
theorem d_Not_areSame_47 : decode prog_9_method_10_code 47 = .ok (.caload, 1) := by decide +kernel
theorem d_Not_areSame_48 : decode prog_9_method_10_code 48 = .ok (.if_icmp .eq 5, 3) := by decide +kernel
theorem d_Not_areSame_53 : decode prog_9_method_10_code 53 = .ok (.iinc 4 1, 3) := by decide +kernel
theorem d_Not_areSame_56 : decode prog_9_method_10_code 56 = .ok (.goto (-32), 3) := by decide +kernel
theorem d_Not_areSame_51 : decode prog_9_method_10_code 51 = .ok (.iconst 0, 1) := by decide +kernel
theorem d_Not_areSame_52 : decode prog_9_method_10_code 52 = .ok (.ireturn, 1) := by decide +kernel
theorem g_Not_areSame_24 {X : cd_E} {kc ks : Nat} {h : cd_H} {Q : Option Value → cd_H → Prop} {v1 : Int32} {v2 : Int32} {v3 : Int32} {v4 : Int32} (F : cc_ok h) (H : (((v3 < v4) → (Q (some (.int 1)) h)) ∧ ((¬ v3 < v4) → ((vp_in (v1 + v4) 96) ∧ ((vp_in (v2 + v4) 96) ∧ (((((cd_i h 72 (v1 + v4).toNatClampNeg) = (cd_i h 72 (v2 + v4).toNatClampNeg)) → (cd_W X m_Not_areSame kc ks 24 [some (.ref 71), some (.int v1), some (.int v2), some (.int v3), some (.int (v4 + 1))] [] h Q)) ∧ ((¬ (cd_i h 72 (v1 + v4).toNatClampNeg) = (cd_i h 72 (v2 + v4).toNatClampNeg)) → (Q (some (.int 0)) h))))))))) : cd_W X m_Not_areSame kc ks 24 [some (.ref 71), some (.int v1), some (.int v2), some (.int v3), some (.int v4)] [] h Q := by
  refine cd_iload (i := 4) d_Not_areSame_24 rfl ?_
  refine cd_iload_n (i := 3) d_Not_areSame_26 rfl rfl ?_
  refine cd_icmp_gt (tgt := 59) d_Not_areSame_27 (by decide) (fun t1 => ?_) (fun t1 => ?_)
  · replace H := H.1 t1
    refine cd_iconst (v := 1) d_Not_areSame_59 (by decide) ?_
    exact cd_iret d_Not_areSame_60 rfl rfl H
  · replace H := H.2 t1
    refine cd_aload_n (i := 0) (v := .ref 71) d_Not_areSame_30 rfl rfl (cd_isr_ref _) ?_
    refine cd_get (v := .ref 72) d_Not_areSame_31 fl_Not_11 (cc_k71 F) (congrArg va_rf (cc_r71_0 F)) ?_
    refine cd_iload_n (i := 1) d_Not_areSame_34 rfl rfl ?_
    refine cd_iload (i := 4) d_Not_areSame_35 rfl ?_
    refine cd_iadd d_Not_areSame_37 ?_
    obtain ⟨c2, H⟩ := H
    refine cd_cald (j := (v1 + v4)) d_Not_areSame_38 rfl (cc_k72 F) c2 ?_
    refine cd_aload_n (i := 0) (v := .ref 71) d_Not_areSame_39 rfl rfl (cd_isr_ref _) ?_
    refine cd_get (v := .ref 72) d_Not_areSame_40 fl_Not_11 (cc_k71 F) (congrArg va_rf (cc_r71_0 F)) ?_
    refine cd_iload_n (i := 2) d_Not_areSame_43 rfl rfl ?_
    refine cd_iload (i := 4) d_Not_areSame_44 rfl ?_
    refine cd_iadd d_Not_areSame_46 ?_
    obtain ⟨c3, H⟩ := H
    refine cd_cald (j := (v2 + v4)) d_Not_areSame_47 rfl (cc_k72 F) c3 ?_
    refine cd_icmp_eq (tgt := 53) d_Not_areSame_48 (by decide) (fun t4 => ?_) (fun t4 => ?_)
    · replace H := H.1 t4
      refine cd_iinc (i := 4) (v := (v4 + 1)) d_Not_areSame_53 rfl (cd_inc1 _) (by decide) ?_
      show cd_W X m_Not_areSame kc ks 56 [some (.ref 71), some (.int v1), some (.int v2), some (.int v3), some (.int (v4 + 1))] [] h Q
      refine cd_goto (tgt := 24) d_Not_areSame_56 (by decide) ?_
      exact H
    · replace H := H.2 t4
      refine cd_iconst (v := 0) d_Not_areSame_51 (by decide) ?_
      exact cd_iret d_Not_areSame_52 rfl rfl H

abbrev m_Not_isName : cd_M := (⟨"CertificateDesk$Notation", "isName", "(I)Z"⟩, prog_9_method_11_code, 8, some .boolean, 4, 86)
theorem d_Not_isName_0 : decode prog_9_method_11_code 0 = .ok (.aload_n 0, 1) := by decide +kernel
theorem d_Not_isName_1 : decode prog_9_method_11_code 1 = .ok (.iload_n 1, 1) := by decide +kernel
theorem d_Not_isName_2 : decode prog_9_method_11_code 2 = .ok (.invokevirtual 53, 3) := by decide +kernel
theorem ca_Not_isName_53 {X : cd_E} : cd_CV X m_Not_isName m_Not_stringLength 53 1 6 := ⟨⟨by decide, kw_3_14, kw_1_3, ⟨by decide, by decide, by decide +kernel⟩, by decide, by decide⟩, ⟨_, rfl, rfl⟩, kw_3_12, kw_3_13, (Or.inl kw_3_11)⟩
theorem d_Not_isName_5 : decode prog_9_method_11_code 5 = .ok (.istore_n 2, 1) := by decide +kernel
theorem d_Not_isName_6 : decode prog_9_method_11_code 6 = .ok (.iload_n 2, 1) := by decide +kernel
theorem d_Not_isName_7 : decode prog_9_method_11_code 7 = .ok (.iconst 1, 1) := by decide +kernel
theorem d_Not_isName_8 : decode prog_9_method_11_code 8 = .ok (.if_icmp .lt 9, 3) := by decide +kernel
theorem d_Not_isName_17 : decode prog_9_method_11_code 17 = .ok (.iconst 0, 1) := by decide +kernel
theorem d_Not_isName_18 : decode prog_9_method_11_code 18 = .ok (.ireturn, 1) := by decide +kernel
theorem d_Not_isName_11 : decode prog_9_method_11_code 11 = .ok (.iload_n 2, 1) := by decide +kernel
theorem d_Not_isName_12 : decode prog_9_method_11_code 12 = .ok (.bipush 12, 2) := by decide +kernel
theorem d_Not_isName_14 : decode prog_9_method_11_code 14 = .ok (.if_icmp .le 5, 3) := by decide +kernel
theorem d_Not_isName_19 : decode prog_9_method_11_code 19 = .ok (.iconst 1, 1) := by decide +kernel
theorem d_Not_isName_20 : decode prog_9_method_11_code 20 = .ok (.istore_n 3, 1) := by decide +kernel
theorem d_Not_isName_21 : decode prog_9_method_11_code 21 = .ok (.iconst 1, 1) := by decide +kernel
theorem d_Not_isName_22 : decode prog_9_method_11_code 22 = .ok (.istore 4, 2) := by decide +kernel
theorem g_Not_isName {X : cd_E} {kc ks : Nat} {h : cd_H} {Q : Option Value → cd_H → Prop} {p1 : Int32} (F : cc_ok h) (H : cd_W X m_Not_stringLength 0 0 0 [some (.ref 71), some (.int p1), none] [] h (fun r1 h2 => ∃ x3 : Int32, r1 = some (.int x3) ∧ ((cc_ok h2) ∧ ((((x3 < 1) → (Q (some (.int 0)) h2)) ∧ ((¬ x3 < 1) → ((((x3 ≤ 12) → (cd_W X m_Not_isName kc ks 24 [some (.ref 71), some (.int p1), some (.int x3), some (.int 1), some (.int 1), none, none, none] [] h2 Q)) ∧ ((¬ x3 ≤ 12) → (Q (some (.int 0)) h2)))))))))) : cd_W X m_Not_isName kc ks 0 [some (.ref 71), some (.int p1), none, none, none, none, none, none] [] h Q := by
  refine cd_aload_n (i := 0) (v := .ref 71) d_Not_isName_0 rfl rfl (cd_isr_ref _) ?_
  refine cd_iload_n (i := 1) d_Not_isName_1 rfl rfl ?_
  refine cd_callV (kc := kc) (ks := ks) (kc' := 0) (ks' := 0) (As := [.int p1]) (S := []) d_Not_isName_2 ca_Not_isName_53 (cc_k71 F) rfl (Nat.le_of_ble_eq_true rfl) (Nat.le_of_ble_eq_true rfl) ?_
  refine cd_W.mono (fun r1 h2 H => ?_) H
  obtain ⟨x3, rfl, H⟩ := H
  obtain ⟨F4, H⟩ := H
  show cd_W X m_Not_isName kc ks 5 [some (.ref 71), some (.int p1), none, none, none, none, none, none] [.int x3] h2 Q
  refine cd_istore_n (i := 2) d_Not_isName_5 rfl (by decide) ?_
  show cd_W X m_Not_isName kc ks 6 [some (.ref 71), some (.int p1), some (.int x3), none, none, none, none, none] [] h2 Q
  refine cd_iload_n (i := 2) d_Not_isName_6 rfl rfl ?_
  refine cd_iconst (v := 1) d_Not_isName_7 (by decide) ?_
  refine cd_icmp_lt (tgt := 17) d_Not_isName_8 (by decide) (fun t5 => ?_) (fun t5 => ?_)
  · replace H := H.1 t5
    refine cd_iconst (v := 0) d_Not_isName_17 (by decide) ?_
    exact cd_iret d_Not_isName_18 rfl rfl H
  · replace H := H.2 t5
    refine cd_iload_n (i := 2) d_Not_isName_11 rfl rfl ?_
    refine cd_bipush (v := 12) d_Not_isName_12 (by decide) ?_
    refine cd_icmp_le (tgt := 19) d_Not_isName_14 (by decide) (fun t6 => ?_) (fun t6 => ?_)
    · replace H := H.1 t6
      refine cd_iconst (v := 1) d_Not_isName_19 (by decide) ?_
      refine cd_istore_n (i := 3) d_Not_isName_20 rfl (by decide) ?_
      show cd_W X m_Not_isName kc ks 21 [some (.ref 71), some (.int p1), some (.int x3), some (.int 1), none, none, none, none] [] h2 Q
      refine cd_iconst (v := 1) d_Not_isName_21 (by decide) ?_
      refine cd_istore (i := 4) d_Not_isName_22 (by decide) ?_
      show cd_W X m_Not_isName kc ks 24 [some (.ref 71), some (.int p1), some (.int x3), some (.int 1), some (.int 1), none, none, none] [] h2 Q
      exact H
    · replace H := H.2 t6
      refine cd_iconst (v := 0) d_Not_isName_17 (by decide) ?_
      exact cd_iret d_Not_isName_18 rfl rfl H

theorem d_Not_isName_24 : decode prog_9_method_11_code 24 = .ok (.iload 4, 2) := by decide +kernel
theorem d_Not_isName_26 : decode prog_9_method_11_code 26 = .ok (.iload_n 2, 1) := by decide +kernel
theorem d_Not_isName_27 : decode prog_9_method_11_code 27 = .ok (.if_icmp .gt 88, 3) := by decide +kernel
theorem d_Not_isName_115 : decode prog_9_method_11_code 115 = .ok (.iload_n 3, 1) := by decide +kernel
theorem d_Not_isName_116 : decode prog_9_method_11_code 116 = .ok (.ifCond .ne 7, 3) := by decide +kernel
theorem d_Not_isName_123 : decode prog_9_method_11_code 123 = .ok (.iconst 0, 1) := by decide +kernel
theorem d_Not_isName_124 : decode prog_9_method_11_code 124 = .ok (.ireturn, 1) := by decide +kernel
theorem d_Not_isName_119 : decode prog_9_method_11_code 119 = .ok (.iconst 1, 1) := by decide +kernel
theorem d_Not_isName_120 : decode prog_9_method_11_code 120 = .ok (.goto 4, 3) := by decide +kernel
theorem d_Not_isName_30 : decode prog_9_method_11_code 30 = .ok (.aload_n 0, 1) := by decide +kernel
theorem d_Not_isName_31 : decode prog_9_method_11_code 31 = .ok (.getfield 11, 3) := by decide +kernel
theorem d_Not_isName_34 : decode prog_9_method_11_code 34 = .ok (.iload_n 1, 1) := by decide +kernel
theorem d_Not_isName_35 : decode prog_9_method_11_code 35 = .ok (.iload 4, 2) := by decide +kernel
theorem d_Not_isName_37 : decode prog_9_method_11_code 37 = .ok (.iadd, 1) := by decide +kernel
theorem d_Not_isName_38 : decode prog_9_method_11_code 38 = .ok (.caload, 1) := by decide +kernel
theorem d_Not_isName_39 : decode prog_9_method_11_code 39 = .ok (.istore 5, 2) := by decide +kernel
theorem d_Not_isName_41 : decode prog_9_method_11_code 41 = .ok (.iload 5, 2) := by decide +kernel
theorem d_Not_isName_43 : decode prog_9_method_11_code 43 = .ok (.bipush 46, 2) := by decide +kernel
theorem d_Not_isName_45 : decode prog_9_method_11_code 45 = .ok (.if_icmp .ne 7, 3) := by decide +kernel
theorem d_Not_isName_52 : decode prog_9_method_11_code 52 = .ok (.iconst 0, 1) := by decide +kernel
theorem d_Not_isName_53 : decode prog_9_method_11_code 53 = .ok (.istore 6, 2) := by decide +kernel
theorem d_Not_isName_55 : decode prog_9_method_11_code 55 = .ok (.iload 5, 2) := by decide +kernel
theorem d_Not_isName_57 : decode prog_9_method_11_code 57 = .ok (.bipush 97, 2) := by decide +kernel
theorem d_Not_isName_59 : decode prog_9_method_11_code 59 = .ok (.if_icmp .lt 10, 3) := by decide +kernel
theorem d_Not_isName_69 : decode prog_9_method_11_code 69 = .ok (.iload 5, 2) := by decide +kernel
theorem d_Not_isName_71 : decode prog_9_method_11_code 71 = .ok (.bipush 48, 2) := by decide +kernel
theorem d_Not_isName_73 : decode prog_9_method_11_code 73 = .ok (.if_icmp .lt 14, 3) := by decide +kernel
theorem d_Not_isName_87 : decode prog_9_method_11_code 87 = .ok (.iconst 0, 1) := by decide +kernel
theorem d_Not_isName_88 : decode prog_9_method_11_code 88 = .ok (.istore 7, 2) := by decide +kernel
theorem d_Not_isName_90 : decode prog_9_method_11_code 90 = .ok (.iload 7, 2) := by decide +kernel
theorem d_Not_isName_92 : decode prog_9_method_11_code 92 = .ok (.ifCond .ne 14, 3) := by decide +kernel
theorem d_Not_isName_95 : decode prog_9_method_11_code 95 = .ok (.iload 6, 2) := by decide +kernel
theorem d_Not_isName_97 : decode prog_9_method_11_code 97 = .ok (.ifCond .eq 7, 3) := by decide +kernel
theorem d_Not_isName_104 : decode prog_9_method_11_code 104 = .ok (.iconst 0, 1) := by decide +kernel
theorem d_Not_isName_105 : decode prog_9_method_11_code 105 = .ok (.ireturn, 1) := by decide +kernel
theorem d_Not_isName_76 : decode prog_9_method_11_code 76 = .ok (.iload 5, 2) := by decide +kernel
theorem d_Not_isName_78 : decode prog_9_method_11_code 78 = .ok (.bipush 57, 2) := by decide +kernel
theorem d_Not_isName_80 : decode prog_9_method_11_code 80 = .ok (.if_icmp .gt 7, 3) := by decide +kernel
theorem d_Not_isName_83 : decode prog_9_method_11_code 83 = .ok (.iconst 1, 1) := by decide +kernel
theorem d_Not_isName_84 : decode prog_9_method_11_code 84 = .ok (.goto 4, 3) := by decide +kernel
theorem d_Not_isName_106 : decode prog_9_method_11_code 106 = .ok (.iload 6, 2) := by decide +kernel
theorem d_Not_isName_108 : decode prog_9_method_11_code 108 = .ok (.istore_n 3, 1) := by decide +kernel
theorem d_Not_isName_109 : decode prog_9_method_11_code 109 = .ok (.iinc 4 1, 3) := by decide +kernel
theorem d_Not_isName_112 : decode prog_9_method_11_code 112 = .ok (.goto (-88), 3) := by decide +kernel
theorem d_Not_isName_62 : decode prog_9_method_11_code 62 = .ok (.iload 5, 2) := by decide +kernel
theorem d_Not_isName_64 : decode prog_9_method_11_code 64 = .ok (.bipush 122, 2) := by decide +kernel
theorem d_Not_isName_66 : decode prog_9_method_11_code 66 = .ok (.if_icmp .le 17, 3) := by decide +kernel
theorem d_Not_isName_48 : decode prog_9_method_11_code 48 = .ok (.iconst 1, 1) := by decide +kernel
theorem d_Not_isName_49 : decode prog_9_method_11_code 49 = .ok (.goto 4, 3) := by decide +kernel
theorem d_Not_isName_100 : decode prog_9_method_11_code 100 = .ok (.iload_n 3, 1) := by decide +kernel
theorem d_Not_isName_101 : decode prog_9_method_11_code 101 = .ok (.ifCond .eq 5, 3) := by decide +kernel
theorem g_Not_isName_24 {X : cd_E} {kc ks : Nat} {h : cd_H} {Q : Option Value → cd_H → Prop} {v1 : Int32} {v2 : Int32} {v3 : Int32} {v4 : Int32} (F : cc_ok h) (H : (((v2 < v4) → ((((¬ v3 = 0) → (Q (some (.int 0)) h)) ∧ ((v3 = 0) → (Q (some (.int 1)) h))))) ∧ ((¬ v2 < v4) → ((vp_in (v1 + v4) 96) ∧ ((((¬ (cd_i h 72 (v1 + v4).toNatClampNeg) = 46) → (((((cd_i h 72 (v1 + v4).toNatClampNeg) < 97) → (((((cd_i h 72 (v1 + v4).toNatClampNeg) < 48) → (Q (some (.int 0)) h)) ∧ ((¬ (cd_i h 72 (v1 + v4).toNatClampNeg) < 48) → ((((57 < (cd_i h 72 (v1 + v4).toNatClampNeg)) → (Q (some (.int 0)) h)) ∧ ((¬ 57 < (cd_i h 72 (v1 + v4).toNatClampNeg)) → (cd_W X m_Not_isName kc ks 24 [some (.ref 71), some (.int v1), some (.int v2), some (.int 0), some (.int (v4 + 1)), none, none, none] [] h Q)))))))) ∧ ((¬ (cd_i h 72 (v1 + v4).toNatClampNeg) < 97) → (((((cd_i h 72 (v1 + v4).toNatClampNeg) ≤ 122) → (cd_W X m_Not_isName kc ks 24 [some (.ref 71), some (.int v1), some (.int v2), some (.int 0), some (.int (v4 + 1)), none, none, none] [] h Q)) ∧ ((¬ (cd_i h 72 (v1 + v4).toNatClampNeg) ≤ 122) → (((((cd_i h 72 (v1 + v4).toNatClampNeg) < 48) → (Q (some (.int 0)) h)) ∧ ((¬ (cd_i h 72 (v1 + v4).toNatClampNeg) < 48) → ((((57 < (cd_i h 72 (v1 + v4).toNatClampNeg)) → (Q (some (.int 0)) h)) ∧ ((¬ 57 < (cd_i h 72 (v1 + v4).toNatClampNeg)) → (cd_W X m_Not_isName kc ks 24 [some (.ref 71), some (.int v1), some (.int v2), some (.int 0), some (.int (v4 + 1)), none, none, none] [] h Q)))))))))))))) ∧ (((cd_i h 72 (v1 + v4).toNatClampNeg) = 46) → (((((cd_i h 72 (v1 + v4).toNatClampNeg) < 97) → (((((cd_i h 72 (v1 + v4).toNatClampNeg) < 48) → ((((v3 = 0) → (cd_W X m_Not_isName kc ks 24 [some (.ref 71), some (.int v1), some (.int v2), some (.int 1), some (.int (v4 + 1)), none, none, none] [] h Q)) ∧ ((¬ v3 = 0) → (Q (some (.int 0)) h))))) ∧ ((¬ (cd_i h 72 (v1 + v4).toNatClampNeg) < 48) → ((((57 < (cd_i h 72 (v1 + v4).toNatClampNeg)) → ((((v3 = 0) → (cd_W X m_Not_isName kc ks 24 [some (.ref 71), some (.int v1), some (.int v2), some (.int 1), some (.int (v4 + 1)), none, none, none] [] h Q)) ∧ ((¬ v3 = 0) → (Q (some (.int 0)) h))))) ∧ ((¬ 57 < (cd_i h 72 (v1 + v4).toNatClampNeg)) → (cd_W X m_Not_isName kc ks 24 [some (.ref 71), some (.int v1), some (.int v2), some (.int 1), some (.int (v4 + 1)), none, none, none] [] h Q)))))))) ∧ ((¬ (cd_i h 72 (v1 + v4).toNatClampNeg) < 97) → (((((cd_i h 72 (v1 + v4).toNatClampNeg) ≤ 122) → (cd_W X m_Not_isName kc ks 24 [some (.ref 71), some (.int v1), some (.int v2), some (.int 1), some (.int (v4 + 1)), none, none, none] [] h Q)) ∧ ((¬ (cd_i h 72 (v1 + v4).toNatClampNeg) ≤ 122) → (((((cd_i h 72 (v1 + v4).toNatClampNeg) < 48) → ((((v3 = 0) → (cd_W X m_Not_isName kc ks 24 [some (.ref 71), some (.int v1), some (.int v2), some (.int 1), some (.int (v4 + 1)), none, none, none] [] h Q)) ∧ ((¬ v3 = 0) → (Q (some (.int 0)) h))))) ∧ ((¬ (cd_i h 72 (v1 + v4).toNatClampNeg) < 48) → ((((57 < (cd_i h 72 (v1 + v4).toNatClampNeg)) → ((((v3 = 0) → (cd_W X m_Not_isName kc ks 24 [some (.ref 71), some (.int v1), some (.int v2), some (.int 1), some (.int (v4 + 1)), none, none, none] [] h Q)) ∧ ((¬ v3 = 0) → (Q (some (.int 0)) h))))) ∧ ((¬ 57 < (cd_i h 72 (v1 + v4).toNatClampNeg)) → (cd_W X m_Not_isName kc ks 24 [some (.ref 71), some (.int v1), some (.int v2), some (.int 1), some (.int (v4 + 1)), none, none, none] [] h Q)))))))))))))))))))) : cd_W X m_Not_isName kc ks 24 [some (.ref 71), some (.int v1), some (.int v2), some (.int v3), some (.int v4), none, none, none] [] h Q := by
  refine cd_iload (i := 4) d_Not_isName_24 rfl ?_
  refine cd_iload_n (i := 2) d_Not_isName_26 rfl rfl ?_
  refine cd_icmp_gt (tgt := 115) d_Not_isName_27 (by decide) (fun t1 => ?_) (fun t1 => ?_)
  · replace H := H.1 t1
    refine cd_iload_n (i := 3) d_Not_isName_115 rfl rfl ?_
    refine cd_if_ne (tgt := 123) d_Not_isName_116 (by decide) (fun t2 => ?_) (fun t2 => ?_)
    · replace H := H.1 t2
      refine cd_iconst (v := 0) d_Not_isName_123 (by decide) ?_
      exact cd_iret d_Not_isName_124 rfl rfl H
    · replace H := H.2 t2
      refine cd_iconst (v := 1) d_Not_isName_119 (by decide) ?_
      refine cd_goto (tgt := 124) d_Not_isName_120 (by decide) ?_
      exact cd_iret d_Not_isName_124 rfl rfl H
  · replace H := H.2 t1
    refine cd_aload_n (i := 0) (v := .ref 71) d_Not_isName_30 rfl rfl (cd_isr_ref _) ?_
    refine cd_get (v := .ref 72) d_Not_isName_31 fl_Not_11 (cc_k71 F) (congrArg va_rf (cc_r71_0 F)) ?_
    refine cd_iload_n (i := 1) d_Not_isName_34 rfl rfl ?_
    refine cd_iload (i := 4) d_Not_isName_35 rfl ?_
    refine cd_iadd d_Not_isName_37 ?_
    obtain ⟨c3, H⟩ := H
    refine cd_cald (j := (v1 + v4)) d_Not_isName_38 rfl (cc_k72 F) c3 ?_
    refine cd_istore (i := 5) d_Not_isName_39 (by decide) ?_
    show cd_W X m_Not_isName kc ks 41 [some (.ref 71), some (.int v1), some (.int v2), some (.int v3), some (.int v4), some (.int (cd_i h 72 (v1 + v4).toNatClampNeg)), none, none] [] h Q
    refine cd_iload (i := 5) d_Not_isName_41 rfl ?_
    refine cd_bipush (v := 46) d_Not_isName_43 (by decide) ?_
    refine cd_icmp_ne (tgt := 52) d_Not_isName_45 (by decide) (fun t4 => ?_) (fun t4 => ?_)
    · replace H := H.1 t4
      refine cd_iconst (v := 0) d_Not_isName_52 (by decide) ?_
      refine cd_istore (i := 6) d_Not_isName_53 (by decide) ?_
      show cd_W X m_Not_isName kc ks 55 [some (.ref 71), some (.int v1), some (.int v2), some (.int v3), some (.int v4), some (.int (cd_i h 72 (v1 + v4).toNatClampNeg)), some (.int 0), none] [] h Q
      refine cd_iload (i := 5) d_Not_isName_55 rfl ?_
      refine cd_bipush (v := 97) d_Not_isName_57 (by decide) ?_
      refine cd_icmp_lt (tgt := 69) d_Not_isName_59 (by decide) (fun t5 => ?_) (fun t5 => ?_)
      · replace H := H.1 t5
        refine cd_iload (i := 5) d_Not_isName_69 rfl ?_
        refine cd_bipush (v := 48) d_Not_isName_71 (by decide) ?_
        refine cd_icmp_lt (tgt := 87) d_Not_isName_73 (by decide) (fun t6 => ?_) (fun t6 => ?_)
        · replace H := H.1 t6
          refine cd_iconst (v := 0) d_Not_isName_87 (by decide) ?_
          refine cd_istore (i := 7) d_Not_isName_88 (by decide) ?_
          show cd_W X m_Not_isName kc ks 90 [some (.ref 71), some (.int v1), some (.int v2), some (.int v3), some (.int v4), some (.int (cd_i h 72 (v1 + v4).toNatClampNeg)), some (.int 0), some (.int 0)] [] h Q
          refine cd_iload (i := 7) d_Not_isName_90 rfl ?_
          refine cd_if_ne (tgt := 106) d_Not_isName_92 (by decide) (fun hc => absurd (by decide) hc) (fun _ => ?_)
          refine cd_iload (i := 6) d_Not_isName_95 rfl ?_
          refine cd_if_eq (tgt := 104) d_Not_isName_97 (by decide) (fun _ => ?_) (fun hc => absurd (by decide) hc)
          refine cd_iconst (v := 0) d_Not_isName_104 (by decide) ?_
          exact cd_iret d_Not_isName_105 rfl rfl H
        · replace H := H.2 t6
          refine cd_iload (i := 5) d_Not_isName_76 rfl ?_
          refine cd_bipush (v := 57) d_Not_isName_78 (by decide) ?_
          refine cd_icmp_gt (tgt := 87) d_Not_isName_80 (by decide) (fun t7 => ?_) (fun t7 => ?_)
          · replace H := H.1 t7
            refine cd_iconst (v := 0) d_Not_isName_87 (by decide) ?_
            refine cd_istore (i := 7) d_Not_isName_88 (by decide) ?_
            show cd_W X m_Not_isName kc ks 90 [some (.ref 71), some (.int v1), some (.int v2), some (.int v3), some (.int v4), some (.int (cd_i h 72 (v1 + v4).toNatClampNeg)), some (.int 0), some (.int 0)] [] h Q
            refine cd_iload (i := 7) d_Not_isName_90 rfl ?_
            refine cd_if_ne (tgt := 106) d_Not_isName_92 (by decide) (fun hc => absurd (by decide) hc) (fun _ => ?_)
            refine cd_iload (i := 6) d_Not_isName_95 rfl ?_
            refine cd_if_eq (tgt := 104) d_Not_isName_97 (by decide) (fun _ => ?_) (fun hc => absurd (by decide) hc)
            refine cd_iconst (v := 0) d_Not_isName_104 (by decide) ?_
            exact cd_iret d_Not_isName_105 rfl rfl H
          · replace H := H.2 t7
            refine cd_iconst (v := 1) d_Not_isName_83 (by decide) ?_
            refine cd_goto (tgt := 88) d_Not_isName_84 (by decide) ?_
            refine cd_istore (i := 7) d_Not_isName_88 (by decide) ?_
            show cd_W X m_Not_isName kc ks 90 [some (.ref 71), some (.int v1), some (.int v2), some (.int v3), some (.int v4), some (.int (cd_i h 72 (v1 + v4).toNatClampNeg)), some (.int 0), some (.int 1)] [] h Q
            refine cd_iload (i := 7) d_Not_isName_90 rfl ?_
            refine cd_if_ne (tgt := 106) d_Not_isName_92 (by decide) (fun _ => ?_) (fun hc => absurd hc (by decide))
            refine cd_iload (i := 6) d_Not_isName_106 rfl ?_
            refine cd_istore_n (i := 3) d_Not_isName_108 rfl (by decide) ?_
            show cd_W X m_Not_isName kc ks 109 [some (.ref 71), some (.int v1), some (.int v2), some (.int 0), some (.int v4), some (.int (cd_i h 72 (v1 + v4).toNatClampNeg)), some (.int 0), some (.int 1)] [] h Q
            refine cd_iinc (i := 4) (v := (v4 + 1)) d_Not_isName_109 rfl (cd_inc1 _) (by decide) ?_
            show cd_W X m_Not_isName kc ks 112 [some (.ref 71), some (.int v1), some (.int v2), some (.int 0), some (.int (v4 + 1)), some (.int (cd_i h 72 (v1 + v4).toNatClampNeg)), some (.int 0), some (.int 1)] [] h Q
            refine cd_goto (tgt := 24) d_Not_isName_112 (by decide) ?_
            refine cd_W.drop (i := 5) ?_
            refine cd_W.drop (i := 6) ?_
            refine cd_W.drop (i := 7) ?_
            exact H
      · replace H := H.2 t5
        refine cd_iload (i := 5) d_Not_isName_62 rfl ?_
        refine cd_bipush (v := 122) d_Not_isName_64 (by decide) ?_
        refine cd_icmp_le (tgt := 83) d_Not_isName_66 (by decide) (fun t8 => ?_) (fun t8 => ?_)
        · replace H := H.1 t8
          refine cd_iconst (v := 1) d_Not_isName_83 (by decide) ?_
          refine cd_goto (tgt := 88) d_Not_isName_84 (by decide) ?_
          refine cd_istore (i := 7) d_Not_isName_88 (by decide) ?_
          show cd_W X m_Not_isName kc ks 90 [some (.ref 71), some (.int v1), some (.int v2), some (.int v3), some (.int v4), some (.int (cd_i h 72 (v1 + v4).toNatClampNeg)), some (.int 0), some (.int 1)] [] h Q
          refine cd_iload (i := 7) d_Not_isName_90 rfl ?_
          refine cd_if_ne (tgt := 106) d_Not_isName_92 (by decide) (fun _ => ?_) (fun hc => absurd hc (by decide))
          refine cd_iload (i := 6) d_Not_isName_106 rfl ?_
          refine cd_istore_n (i := 3) d_Not_isName_108 rfl (by decide) ?_
          show cd_W X m_Not_isName kc ks 109 [some (.ref 71), some (.int v1), some (.int v2), some (.int 0), some (.int v4), some (.int (cd_i h 72 (v1 + v4).toNatClampNeg)), some (.int 0), some (.int 1)] [] h Q
          refine cd_iinc (i := 4) (v := (v4 + 1)) d_Not_isName_109 rfl (cd_inc1 _) (by decide) ?_
          show cd_W X m_Not_isName kc ks 112 [some (.ref 71), some (.int v1), some (.int v2), some (.int 0), some (.int (v4 + 1)), some (.int (cd_i h 72 (v1 + v4).toNatClampNeg)), some (.int 0), some (.int 1)] [] h Q
          refine cd_goto (tgt := 24) d_Not_isName_112 (by decide) ?_
          refine cd_W.drop (i := 5) ?_
          refine cd_W.drop (i := 6) ?_
          refine cd_W.drop (i := 7) ?_
          exact H
        · replace H := H.2 t8
          refine cd_iload (i := 5) d_Not_isName_69 rfl ?_
          refine cd_bipush (v := 48) d_Not_isName_71 (by decide) ?_
          refine cd_icmp_lt (tgt := 87) d_Not_isName_73 (by decide) (fun t9 => ?_) (fun t9 => ?_)
          · replace H := H.1 t9
            refine cd_iconst (v := 0) d_Not_isName_87 (by decide) ?_
            refine cd_istore (i := 7) d_Not_isName_88 (by decide) ?_
            show cd_W X m_Not_isName kc ks 90 [some (.ref 71), some (.int v1), some (.int v2), some (.int v3), some (.int v4), some (.int (cd_i h 72 (v1 + v4).toNatClampNeg)), some (.int 0), some (.int 0)] [] h Q
            refine cd_iload (i := 7) d_Not_isName_90 rfl ?_
            refine cd_if_ne (tgt := 106) d_Not_isName_92 (by decide) (fun hc => absurd (by decide) hc) (fun _ => ?_)
            refine cd_iload (i := 6) d_Not_isName_95 rfl ?_
            refine cd_if_eq (tgt := 104) d_Not_isName_97 (by decide) (fun _ => ?_) (fun hc => absurd (by decide) hc)
            refine cd_iconst (v := 0) d_Not_isName_104 (by decide) ?_
            exact cd_iret d_Not_isName_105 rfl rfl H
          · replace H := H.2 t9
            refine cd_iload (i := 5) d_Not_isName_76 rfl ?_
            refine cd_bipush (v := 57) d_Not_isName_78 (by decide) ?_
            refine cd_icmp_gt (tgt := 87) d_Not_isName_80 (by decide) (fun t10 => ?_) (fun t10 => ?_)
            · replace H := H.1 t10
              refine cd_iconst (v := 0) d_Not_isName_87 (by decide) ?_
              refine cd_istore (i := 7) d_Not_isName_88 (by decide) ?_
              show cd_W X m_Not_isName kc ks 90 [some (.ref 71), some (.int v1), some (.int v2), some (.int v3), some (.int v4), some (.int (cd_i h 72 (v1 + v4).toNatClampNeg)), some (.int 0), some (.int 0)] [] h Q
              refine cd_iload (i := 7) d_Not_isName_90 rfl ?_
              refine cd_if_ne (tgt := 106) d_Not_isName_92 (by decide) (fun hc => absurd (by decide) hc) (fun _ => ?_)
              refine cd_iload (i := 6) d_Not_isName_95 rfl ?_
              refine cd_if_eq (tgt := 104) d_Not_isName_97 (by decide) (fun _ => ?_) (fun hc => absurd (by decide) hc)
              refine cd_iconst (v := 0) d_Not_isName_104 (by decide) ?_
              exact cd_iret d_Not_isName_105 rfl rfl H
            · replace H := H.2 t10
              refine cd_iconst (v := 1) d_Not_isName_83 (by decide) ?_
              refine cd_goto (tgt := 88) d_Not_isName_84 (by decide) ?_
              refine cd_istore (i := 7) d_Not_isName_88 (by decide) ?_
              show cd_W X m_Not_isName kc ks 90 [some (.ref 71), some (.int v1), some (.int v2), some (.int v3), some (.int v4), some (.int (cd_i h 72 (v1 + v4).toNatClampNeg)), some (.int 0), some (.int 1)] [] h Q
              refine cd_iload (i := 7) d_Not_isName_90 rfl ?_
              refine cd_if_ne (tgt := 106) d_Not_isName_92 (by decide) (fun _ => ?_) (fun hc => absurd hc (by decide))
              refine cd_iload (i := 6) d_Not_isName_106 rfl ?_
              refine cd_istore_n (i := 3) d_Not_isName_108 rfl (by decide) ?_
              show cd_W X m_Not_isName kc ks 109 [some (.ref 71), some (.int v1), some (.int v2), some (.int 0), some (.int v4), some (.int (cd_i h 72 (v1 + v4).toNatClampNeg)), some (.int 0), some (.int 1)] [] h Q
              refine cd_iinc (i := 4) (v := (v4 + 1)) d_Not_isName_109 rfl (cd_inc1 _) (by decide) ?_
              show cd_W X m_Not_isName kc ks 112 [some (.ref 71), some (.int v1), some (.int v2), some (.int 0), some (.int (v4 + 1)), some (.int (cd_i h 72 (v1 + v4).toNatClampNeg)), some (.int 0), some (.int 1)] [] h Q
              refine cd_goto (tgt := 24) d_Not_isName_112 (by decide) ?_
              refine cd_W.drop (i := 5) ?_
              refine cd_W.drop (i := 6) ?_
              refine cd_W.drop (i := 7) ?_
              exact H
    · replace H := H.2 t4
      refine cd_iconst (v := 1) d_Not_isName_48 (by decide) ?_
      refine cd_goto (tgt := 53) d_Not_isName_49 (by decide) ?_
      refine cd_istore (i := 6) d_Not_isName_53 (by decide) ?_
      show cd_W X m_Not_isName kc ks 55 [some (.ref 71), some (.int v1), some (.int v2), some (.int v3), some (.int v4), some (.int (cd_i h 72 (v1 + v4).toNatClampNeg)), some (.int 1), none] [] h Q
      refine cd_iload (i := 5) d_Not_isName_55 rfl ?_
      refine cd_bipush (v := 97) d_Not_isName_57 (by decide) ?_
      refine cd_icmp_lt (tgt := 69) d_Not_isName_59 (by decide) (fun t11 => ?_) (fun t11 => ?_)
      · replace H := H.1 t11
        refine cd_iload (i := 5) d_Not_isName_69 rfl ?_
        refine cd_bipush (v := 48) d_Not_isName_71 (by decide) ?_
        refine cd_icmp_lt (tgt := 87) d_Not_isName_73 (by decide) (fun t12 => ?_) (fun t12 => ?_)
        · replace H := H.1 t12
          refine cd_iconst (v := 0) d_Not_isName_87 (by decide) ?_
          refine cd_istore (i := 7) d_Not_isName_88 (by decide) ?_
          show cd_W X m_Not_isName kc ks 90 [some (.ref 71), some (.int v1), some (.int v2), some (.int v3), some (.int v4), some (.int (cd_i h 72 (v1 + v4).toNatClampNeg)), some (.int 1), some (.int 0)] [] h Q
          refine cd_iload (i := 7) d_Not_isName_90 rfl ?_
          refine cd_if_ne (tgt := 106) d_Not_isName_92 (by decide) (fun hc => absurd (by decide) hc) (fun _ => ?_)
          refine cd_iload (i := 6) d_Not_isName_95 rfl ?_
          refine cd_if_eq (tgt := 104) d_Not_isName_97 (by decide) (fun hc => absurd hc (by decide)) (fun _ => ?_)
          refine cd_iload_n (i := 3) d_Not_isName_100 rfl rfl ?_
          refine cd_if_eq (tgt := 106) d_Not_isName_101 (by decide) (fun t13 => ?_) (fun t13 => ?_)
          · replace H := H.1 t13
            refine cd_iload (i := 6) d_Not_isName_106 rfl ?_
            refine cd_istore_n (i := 3) d_Not_isName_108 rfl (by decide) ?_
            show cd_W X m_Not_isName kc ks 109 [some (.ref 71), some (.int v1), some (.int v2), some (.int 1), some (.int v4), some (.int (cd_i h 72 (v1 + v4).toNatClampNeg)), some (.int 1), some (.int 0)] [] h Q
            refine cd_iinc (i := 4) (v := (v4 + 1)) d_Not_isName_109 rfl (cd_inc1 _) (by decide) ?_
            show cd_W X m_Not_isName kc ks 112 [some (.ref 71), some (.int v1), some (.int v2), some (.int 1), some (.int (v4 + 1)), some (.int (cd_i h 72 (v1 + v4).toNatClampNeg)), some (.int 1), some (.int 0)] [] h Q
            refine cd_goto (tgt := 24) d_Not_isName_112 (by decide) ?_
            refine cd_W.drop (i := 5) ?_
            refine cd_W.drop (i := 6) ?_
            refine cd_W.drop (i := 7) ?_
            exact H
          · replace H := H.2 t13
            refine cd_iconst (v := 0) d_Not_isName_104 (by decide) ?_
            exact cd_iret d_Not_isName_105 rfl rfl H
        · replace H := H.2 t12
          refine cd_iload (i := 5) d_Not_isName_76 rfl ?_
          refine cd_bipush (v := 57) d_Not_isName_78 (by decide) ?_
          refine cd_icmp_gt (tgt := 87) d_Not_isName_80 (by decide) (fun t14 => ?_) (fun t14 => ?_)
          · replace H := H.1 t14
            refine cd_iconst (v := 0) d_Not_isName_87 (by decide) ?_
            refine cd_istore (i := 7) d_Not_isName_88 (by decide) ?_
            show cd_W X m_Not_isName kc ks 90 [some (.ref 71), some (.int v1), some (.int v2), some (.int v3), some (.int v4), some (.int (cd_i h 72 (v1 + v4).toNatClampNeg)), some (.int 1), some (.int 0)] [] h Q
            refine cd_iload (i := 7) d_Not_isName_90 rfl ?_
            refine cd_if_ne (tgt := 106) d_Not_isName_92 (by decide) (fun hc => absurd (by decide) hc) (fun _ => ?_)
            refine cd_iload (i := 6) d_Not_isName_95 rfl ?_
            refine cd_if_eq (tgt := 104) d_Not_isName_97 (by decide) (fun hc => absurd hc (by decide)) (fun _ => ?_)
            refine cd_iload_n (i := 3) d_Not_isName_100 rfl rfl ?_
            refine cd_if_eq (tgt := 106) d_Not_isName_101 (by decide) (fun t15 => ?_) (fun t15 => ?_)
            · replace H := H.1 t15
              refine cd_iload (i := 6) d_Not_isName_106 rfl ?_
              refine cd_istore_n (i := 3) d_Not_isName_108 rfl (by decide) ?_
              show cd_W X m_Not_isName kc ks 109 [some (.ref 71), some (.int v1), some (.int v2), some (.int 1), some (.int v4), some (.int (cd_i h 72 (v1 + v4).toNatClampNeg)), some (.int 1), some (.int 0)] [] h Q
              refine cd_iinc (i := 4) (v := (v4 + 1)) d_Not_isName_109 rfl (cd_inc1 _) (by decide) ?_
              show cd_W X m_Not_isName kc ks 112 [some (.ref 71), some (.int v1), some (.int v2), some (.int 1), some (.int (v4 + 1)), some (.int (cd_i h 72 (v1 + v4).toNatClampNeg)), some (.int 1), some (.int 0)] [] h Q
              refine cd_goto (tgt := 24) d_Not_isName_112 (by decide) ?_
              refine cd_W.drop (i := 5) ?_
              refine cd_W.drop (i := 6) ?_
              refine cd_W.drop (i := 7) ?_
              exact H
            · replace H := H.2 t15
              refine cd_iconst (v := 0) d_Not_isName_104 (by decide) ?_
              exact cd_iret d_Not_isName_105 rfl rfl H
          · replace H := H.2 t14
            refine cd_iconst (v := 1) d_Not_isName_83 (by decide) ?_
            refine cd_goto (tgt := 88) d_Not_isName_84 (by decide) ?_
            refine cd_istore (i := 7) d_Not_isName_88 (by decide) ?_
            show cd_W X m_Not_isName kc ks 90 [some (.ref 71), some (.int v1), some (.int v2), some (.int v3), some (.int v4), some (.int (cd_i h 72 (v1 + v4).toNatClampNeg)), some (.int 1), some (.int 1)] [] h Q
            refine cd_iload (i := 7) d_Not_isName_90 rfl ?_
            refine cd_if_ne (tgt := 106) d_Not_isName_92 (by decide) (fun _ => ?_) (fun hc => absurd hc (by decide))
            refine cd_iload (i := 6) d_Not_isName_106 rfl ?_
            refine cd_istore_n (i := 3) d_Not_isName_108 rfl (by decide) ?_
            show cd_W X m_Not_isName kc ks 109 [some (.ref 71), some (.int v1), some (.int v2), some (.int 1), some (.int v4), some (.int (cd_i h 72 (v1 + v4).toNatClampNeg)), some (.int 1), some (.int 1)] [] h Q
            refine cd_iinc (i := 4) (v := (v4 + 1)) d_Not_isName_109 rfl (cd_inc1 _) (by decide) ?_
            show cd_W X m_Not_isName kc ks 112 [some (.ref 71), some (.int v1), some (.int v2), some (.int 1), some (.int (v4 + 1)), some (.int (cd_i h 72 (v1 + v4).toNatClampNeg)), some (.int 1), some (.int 1)] [] h Q
            refine cd_goto (tgt := 24) d_Not_isName_112 (by decide) ?_
            refine cd_W.drop (i := 5) ?_
            refine cd_W.drop (i := 6) ?_
            refine cd_W.drop (i := 7) ?_
            exact H
      · replace H := H.2 t11
        refine cd_iload (i := 5) d_Not_isName_62 rfl ?_
        refine cd_bipush (v := 122) d_Not_isName_64 (by decide) ?_
        refine cd_icmp_le (tgt := 83) d_Not_isName_66 (by decide) (fun t16 => ?_) (fun t16 => ?_)
        · replace H := H.1 t16
          refine cd_iconst (v := 1) d_Not_isName_83 (by decide) ?_
          refine cd_goto (tgt := 88) d_Not_isName_84 (by decide) ?_
          refine cd_istore (i := 7) d_Not_isName_88 (by decide) ?_
          show cd_W X m_Not_isName kc ks 90 [some (.ref 71), some (.int v1), some (.int v2), some (.int v3), some (.int v4), some (.int (cd_i h 72 (v1 + v4).toNatClampNeg)), some (.int 1), some (.int 1)] [] h Q
          refine cd_iload (i := 7) d_Not_isName_90 rfl ?_
          refine cd_if_ne (tgt := 106) d_Not_isName_92 (by decide) (fun _ => ?_) (fun hc => absurd hc (by decide))
          refine cd_iload (i := 6) d_Not_isName_106 rfl ?_
          refine cd_istore_n (i := 3) d_Not_isName_108 rfl (by decide) ?_
          show cd_W X m_Not_isName kc ks 109 [some (.ref 71), some (.int v1), some (.int v2), some (.int 1), some (.int v4), some (.int (cd_i h 72 (v1 + v4).toNatClampNeg)), some (.int 1), some (.int 1)] [] h Q
          refine cd_iinc (i := 4) (v := (v4 + 1)) d_Not_isName_109 rfl (cd_inc1 _) (by decide) ?_
          show cd_W X m_Not_isName kc ks 112 [some (.ref 71), some (.int v1), some (.int v2), some (.int 1), some (.int (v4 + 1)), some (.int (cd_i h 72 (v1 + v4).toNatClampNeg)), some (.int 1), some (.int 1)] [] h Q
          refine cd_goto (tgt := 24) d_Not_isName_112 (by decide) ?_
          refine cd_W.drop (i := 5) ?_
          refine cd_W.drop (i := 6) ?_
          refine cd_W.drop (i := 7) ?_
          exact H
        · replace H := H.2 t16
          refine cd_iload (i := 5) d_Not_isName_69 rfl ?_
          refine cd_bipush (v := 48) d_Not_isName_71 (by decide) ?_
          refine cd_icmp_lt (tgt := 87) d_Not_isName_73 (by decide) (fun t17 => ?_) (fun t17 => ?_)
          · replace H := H.1 t17
            refine cd_iconst (v := 0) d_Not_isName_87 (by decide) ?_
            refine cd_istore (i := 7) d_Not_isName_88 (by decide) ?_
            show cd_W X m_Not_isName kc ks 90 [some (.ref 71), some (.int v1), some (.int v2), some (.int v3), some (.int v4), some (.int (cd_i h 72 (v1 + v4).toNatClampNeg)), some (.int 1), some (.int 0)] [] h Q
            refine cd_iload (i := 7) d_Not_isName_90 rfl ?_
            refine cd_if_ne (tgt := 106) d_Not_isName_92 (by decide) (fun hc => absurd (by decide) hc) (fun _ => ?_)
            refine cd_iload (i := 6) d_Not_isName_95 rfl ?_
            refine cd_if_eq (tgt := 104) d_Not_isName_97 (by decide) (fun hc => absurd hc (by decide)) (fun _ => ?_)
            refine cd_iload_n (i := 3) d_Not_isName_100 rfl rfl ?_
            refine cd_if_eq (tgt := 106) d_Not_isName_101 (by decide) (fun t18 => ?_) (fun t18 => ?_)
            · replace H := H.1 t18
              refine cd_iload (i := 6) d_Not_isName_106 rfl ?_
              refine cd_istore_n (i := 3) d_Not_isName_108 rfl (by decide) ?_
              show cd_W X m_Not_isName kc ks 109 [some (.ref 71), some (.int v1), some (.int v2), some (.int 1), some (.int v4), some (.int (cd_i h 72 (v1 + v4).toNatClampNeg)), some (.int 1), some (.int 0)] [] h Q
              refine cd_iinc (i := 4) (v := (v4 + 1)) d_Not_isName_109 rfl (cd_inc1 _) (by decide) ?_
              show cd_W X m_Not_isName kc ks 112 [some (.ref 71), some (.int v1), some (.int v2), some (.int 1), some (.int (v4 + 1)), some (.int (cd_i h 72 (v1 + v4).toNatClampNeg)), some (.int 1), some (.int 0)] [] h Q
              refine cd_goto (tgt := 24) d_Not_isName_112 (by decide) ?_
              refine cd_W.drop (i := 5) ?_
              refine cd_W.drop (i := 6) ?_
              refine cd_W.drop (i := 7) ?_
              exact H
            · replace H := H.2 t18
              refine cd_iconst (v := 0) d_Not_isName_104 (by decide) ?_
              exact cd_iret d_Not_isName_105 rfl rfl H
          · replace H := H.2 t17
            refine cd_iload (i := 5) d_Not_isName_76 rfl ?_
            refine cd_bipush (v := 57) d_Not_isName_78 (by decide) ?_
            refine cd_icmp_gt (tgt := 87) d_Not_isName_80 (by decide) (fun t19 => ?_) (fun t19 => ?_)
            · replace H := H.1 t19
              refine cd_iconst (v := 0) d_Not_isName_87 (by decide) ?_
              refine cd_istore (i := 7) d_Not_isName_88 (by decide) ?_
              show cd_W X m_Not_isName kc ks 90 [some (.ref 71), some (.int v1), some (.int v2), some (.int v3), some (.int v4), some (.int (cd_i h 72 (v1 + v4).toNatClampNeg)), some (.int 1), some (.int 0)] [] h Q
              refine cd_iload (i := 7) d_Not_isName_90 rfl ?_
              refine cd_if_ne (tgt := 106) d_Not_isName_92 (by decide) (fun hc => absurd (by decide) hc) (fun _ => ?_)
              refine cd_iload (i := 6) d_Not_isName_95 rfl ?_
              refine cd_if_eq (tgt := 104) d_Not_isName_97 (by decide) (fun hc => absurd hc (by decide)) (fun _ => ?_)
              refine cd_iload_n (i := 3) d_Not_isName_100 rfl rfl ?_
              refine cd_if_eq (tgt := 106) d_Not_isName_101 (by decide) (fun t20 => ?_) (fun t20 => ?_)
              · replace H := H.1 t20
                refine cd_iload (i := 6) d_Not_isName_106 rfl ?_
                refine cd_istore_n (i := 3) d_Not_isName_108 rfl (by decide) ?_
                show cd_W X m_Not_isName kc ks 109 [some (.ref 71), some (.int v1), some (.int v2), some (.int 1), some (.int v4), some (.int (cd_i h 72 (v1 + v4).toNatClampNeg)), some (.int 1), some (.int 0)] [] h Q
                refine cd_iinc (i := 4) (v := (v4 + 1)) d_Not_isName_109 rfl (cd_inc1 _) (by decide) ?_
                show cd_W X m_Not_isName kc ks 112 [some (.ref 71), some (.int v1), some (.int v2), some (.int 1), some (.int (v4 + 1)), some (.int (cd_i h 72 (v1 + v4).toNatClampNeg)), some (.int 1), some (.int 0)] [] h Q
                refine cd_goto (tgt := 24) d_Not_isName_112 (by decide) ?_
                refine cd_W.drop (i := 5) ?_
                refine cd_W.drop (i := 6) ?_
                refine cd_W.drop (i := 7) ?_
                exact H
              · replace H := H.2 t20
                refine cd_iconst (v := 0) d_Not_isName_104 (by decide) ?_
                exact cd_iret d_Not_isName_105 rfl rfl H
            · replace H := H.2 t19
              refine cd_iconst (v := 1) d_Not_isName_83 (by decide) ?_
              refine cd_goto (tgt := 88) d_Not_isName_84 (by decide) ?_
              refine cd_istore (i := 7) d_Not_isName_88 (by decide) ?_
              show cd_W X m_Not_isName kc ks 90 [some (.ref 71), some (.int v1), some (.int v2), some (.int v3), some (.int v4), some (.int (cd_i h 72 (v1 + v4).toNatClampNeg)), some (.int 1), some (.int 1)] [] h Q
              refine cd_iload (i := 7) d_Not_isName_90 rfl ?_
              refine cd_if_ne (tgt := 106) d_Not_isName_92 (by decide) (fun _ => ?_) (fun hc => absurd hc (by decide))
              refine cd_iload (i := 6) d_Not_isName_106 rfl ?_
              refine cd_istore_n (i := 3) d_Not_isName_108 rfl (by decide) ?_
              show cd_W X m_Not_isName kc ks 109 [some (.ref 71), some (.int v1), some (.int v2), some (.int 1), some (.int v4), some (.int (cd_i h 72 (v1 + v4).toNatClampNeg)), some (.int 1), some (.int 1)] [] h Q
              refine cd_iinc (i := 4) (v := (v4 + 1)) d_Not_isName_109 rfl (cd_inc1 _) (by decide) ?_
              show cd_W X m_Not_isName kc ks 112 [some (.ref 71), some (.int v1), some (.int v2), some (.int 1), some (.int (v4 + 1)), some (.int (cd_i h 72 (v1 + v4).toNatClampNeg)), some (.int 1), some (.int 1)] [] h Q
              refine cd_goto (tgt := 24) d_Not_isName_112 (by decide) ?_
              refine cd_W.drop (i := 5) ?_
              refine cd_W.drop (i := 6) ?_
              refine cd_W.drop (i := 7) ?_
              exact H

theorem d_Not_stringLength_0 : decode prog_9_method_12_code 0 = .ok (.aload_n 0, 1) := by decide +kernel
theorem d_Not_stringLength_1 : decode prog_9_method_12_code 1 = .ok (.iload_n 1, 1) := by decide +kernel
theorem d_Not_stringLength_2 : decode prog_9_method_12_code 2 = .ok (.invokevirtual 32, 3) := by decide +kernel
theorem ca_Not_stringLength_32 {X : cd_E} : cd_CV X m_Not_stringLength m_Not_endOfString 32 1 6 := ⟨⟨by decide, kw_2_53, kw_1_3, ⟨by decide, by decide, by decide +kernel⟩, by decide, by decide⟩, ⟨_, rfl, rfl⟩, kw_2_52, kp_8, (Or.inl kw_2_50)⟩
theorem d_Not_stringLength_5 : decode prog_9_method_12_code 5 = .ok (.istore_n 2, 1) := by decide +kernel
theorem d_Not_stringLength_6 : decode prog_9_method_12_code 6 = .ok (.iload_n 2, 1) := by decide +kernel
theorem d_Not_stringLength_7 : decode prog_9_method_12_code 7 = .ok (.iconst (-1), 1) := by decide +kernel
theorem d_Not_stringLength_8 : decode prog_9_method_12_code 8 = .ok (.if_icmp .ne 7, 3) := by decide +kernel
theorem d_Not_stringLength_15 : decode prog_9_method_12_code 15 = .ok (.iload_n 2, 1) := by decide +kernel
theorem d_Not_stringLength_16 : decode prog_9_method_12_code 16 = .ok (.iload_n 1, 1) := by decide +kernel
theorem d_Not_stringLength_17 : decode prog_9_method_12_code 17 = .ok (.isub, 1) := by decide +kernel
theorem d_Not_stringLength_18 : decode prog_9_method_12_code 18 = .ok (.iconst 2, 1) := by decide +kernel
theorem d_Not_stringLength_19 : decode prog_9_method_12_code 19 = .ok (.isub, 1) := by decide +kernel
theorem d_Not_stringLength_20 : decode prog_9_method_12_code 20 = .ok (.ireturn, 1) := by decide +kernel
theorem d_Not_stringLength_11 : decode prog_9_method_12_code 11 = .ok (.iconst (-1), 1) := by decide +kernel
theorem d_Not_stringLength_12 : decode prog_9_method_12_code 12 = .ok (.goto 8, 3) := by decide +kernel
theorem g_Not_stringLength {X : cd_E} {kc ks : Nat} {h : cd_H} {Q : Option Value → cd_H → Prop} {p1 : Int32} (F : cc_ok h) (H : cd_W X m_Not_endOfString 0 0 0 [some (.ref 71), some (.int p1), none] [] h (fun r1 h2 => ∃ x3 : Int32, r1 = some (.int x3) ∧ ((cc_ok h2) ∧ ((((¬ x3 = (-1)) → (Q (some (.int ((x3 - p1) - 2))) h2)) ∧ ((x3 = (-1)) → (Q (some (.int (-1))) h2))))))) : cd_W X m_Not_stringLength kc ks 0 [some (.ref 71), some (.int p1), none] [] h Q := by
  refine cd_aload_n (i := 0) (v := .ref 71) d_Not_stringLength_0 rfl rfl (cd_isr_ref _) ?_
  refine cd_iload_n (i := 1) d_Not_stringLength_1 rfl rfl ?_
  refine cd_callV (kc := kc) (ks := ks) (kc' := 0) (ks' := 0) (As := [.int p1]) (S := []) d_Not_stringLength_2 ca_Not_stringLength_32 (cc_k71 F) rfl (Nat.le_of_ble_eq_true rfl) (Nat.le_of_ble_eq_true rfl) ?_
  refine cd_W.mono (fun r1 h2 H => ?_) H
  obtain ⟨x3, rfl, H⟩ := H
  obtain ⟨F4, H⟩ := H
  show cd_W X m_Not_stringLength kc ks 5 [some (.ref 71), some (.int p1), none] [.int x3] h2 Q
  refine cd_istore_n (i := 2) d_Not_stringLength_5 rfl (by decide) ?_
  show cd_W X m_Not_stringLength kc ks 6 [some (.ref 71), some (.int p1), some (.int x3)] [] h2 Q
  refine cd_iload_n (i := 2) d_Not_stringLength_6 rfl rfl ?_
  refine cd_iconst (v := (-1)) d_Not_stringLength_7 (by decide) ?_
  refine cd_icmp_ne (tgt := 15) d_Not_stringLength_8 (by decide) (fun t5 => ?_) (fun t5 => ?_)
  · replace H := H.1 t5
    refine cd_iload_n (i := 2) d_Not_stringLength_15 rfl rfl ?_
    refine cd_iload_n (i := 1) d_Not_stringLength_16 rfl rfl ?_
    refine cd_isub d_Not_stringLength_17 ?_
    refine cd_iconst (v := 2) d_Not_stringLength_18 (by decide) ?_
    refine cd_isub d_Not_stringLength_19 ?_
    exact cd_iret d_Not_stringLength_20 rfl rfl H
  · replace H := H.2 t5
    refine cd_iconst (v := (-1)) d_Not_stringLength_11 (by decide) ?_
    refine cd_goto (tgt := 20) d_Not_stringLength_12 (by decide) ?_
    exact cd_iret d_Not_stringLength_20 rfl rfl H

abbrev m_Not_string : cd_M := (⟨"CertificateDesk$Notation", "string", "(I)Ljava/lang/String;"⟩, prog_9_method_13_code, 5, some (.object "java/lang/String"), 28, 613)
theorem d_Not_string_0 : decode prog_9_method_13_code 0 = .ok (.new 56, 3) := by decide +kernel
theorem kw_3_82 : (Jvm.Cond.lays "java/lang/StringBuilder" "java/lang/AbstractStringBuilder" "value" "[B") ∈ cd_tbl := tb_3 (List.mem_of_getElem? (i := 82) (by decide +kernel)) (by decide)
theorem kw_3_84 : (Jvm.Cond.lays "java/lang/StringBuilder" "java/lang/AbstractStringBuilder" "coder" "B") ∈ cd_tbl := tb_3 (List.mem_of_getElem? (i := 84) (by decide +kernel)) (by decide)
theorem kw_3_86 : (Jvm.Cond.lays "java/lang/StringBuilder" "java/lang/AbstractStringBuilder" "maybeLatin1" "Z") ∈ cd_tbl := tb_3 (List.mem_of_getElem? (i := 86) (by decide +kernel)) (by decide)
theorem kw_3_88 : (Jvm.Cond.lays "java/lang/StringBuilder" "java/lang/AbstractStringBuilder" "count" "I") ∈ cd_tbl := tb_3 (List.mem_of_getElem? (i := 88) (by decide +kernel)) (by decide)
theorem kw_3_62 : (Jvm.Cond.instantiable "java/lang/StringBuilder" (4 : Nat)) ∈ cd_tbl := tb_3 (List.mem_of_getElem? (i := 62) (by decide +kernel)) (by decide)
theorem kw_1_25 : (Jvm.Cond.initialized "java/lang/StringBuilder") ∈ cd_tbl := tb_1 (List.mem_of_getElem? (i := 25) (by decide +kernel)) (by decide)
theorem cl_14 : cd_CL 14 4 := ⟨_, rfl, List.forall_mem_cons.mpr ⟨kw_3_82, List.forall_mem_cons.mpr ⟨kw_3_84, List.forall_mem_cons.mpr ⟨kw_3_86, List.forall_mem_cons.mpr ⟨kw_3_88, fun _ h => absurd h List.not_mem_nil⟩⟩⟩⟩, by decide +kernel, by decide +kernel, kw_3_62, kw_1_25, by decide +kernel⟩
theorem kw_3_61 : (Jvm.Cond.classLink "CertificateDesk$Notation" (56 : Nat) "java/lang/StringBuilder") ∈ cd_tbl := tb_3 (List.mem_of_getElem? (i := 61) (by decide +kernel)) (by decide)
theorem nc_Not_56 : cd_NC "CertificateDesk$Notation" 56 14 4 := cd_NC.of cl_14 rfl kw_3_61
theorem d_Not_string_3 : decode prog_9_method_13_code 3 = .ok (.dup, 1) := by decide +kernel
theorem d_Not_string_4 : decode prog_9_method_13_code 4 = .ok (.invokespecial 58, 3) := by decide +kernel
abbrev m_SB_init_V : cd_M := (⟨"java/lang/StringBuilder", "<init>", "()V"⟩, prog_22_method_1_code, 1, none, 22, 487)
theorem kw_3_63 : (Jvm.Cond.methodLink "CertificateDesk$Notation" (58 : Nat) ({ cls := "java/lang/StringBuilder", name := "<init>", desc := "()V" } : Jvm.MethodName)) ∈ cd_tbl := tb_3 (List.mem_of_getElem? (i := 63) (by decide +kernel)) (by decide)
theorem kw_3_65 : (Jvm.Cond.code ({ cls := "java/lang/StringBuilder", name := "<init>", desc := "()V" } : Jvm.MethodName) prog_22_method_1_code (1 : Nat) (Option.none : Option Jvm.ClassFile.FieldType)) ∈ cd_tbl := tb_3 (List.mem_of_getElem? (i := 65) (by decide +kernel)) (by decide)
theorem kw_3_64 : (Jvm.Cond.instanceMethod ({ cls := "java/lang/StringBuilder", name := "<init>", desc := "()V" } : Jvm.MethodName)) ∈ cd_tbl := tb_3 (List.mem_of_getElem? (i := 64) (by decide +kernel)) (by decide)
theorem ca_Not_string_58 {X : cd_E} : cd_CI X m_Not_string m_SB_init_V 58 0 := ⟨⟨by decide, kw_3_65, kw_1_25, ⟨by decide, by decide, by decide +kernel⟩, by decide, by decide⟩, rfl, rfl, kw_3_64, (Or.inl kw_3_63)⟩
theorem d_Not_string_7 : decode prog_9_method_13_code 7 = .ok (.astore_n 2, 1) := by decide +kernel
theorem d_Not_string_8 : decode prog_9_method_13_code 8 = .ok (.aload_n 0, 1) := by decide +kernel
theorem d_Not_string_9 : decode prog_9_method_13_code 9 = .ok (.iload_n 1, 1) := by decide +kernel
theorem d_Not_string_10 : decode prog_9_method_13_code 10 = .ok (.invokevirtual 32, 3) := by decide +kernel
theorem ca_Not_string_32 {X : cd_E} : cd_CV X m_Not_string m_Not_endOfString 32 1 6 := ⟨⟨by decide, kw_2_53, kw_1_3, ⟨by decide, by decide, by decide +kernel⟩, by decide, by decide⟩, ⟨_, rfl, rfl⟩, kw_2_52, kp_8, (Or.inl kw_2_50)⟩
theorem d_Not_string_13 : decode prog_9_method_13_code 13 = .ok (.istore_n 3, 1) := by decide +kernel
theorem d_Not_string_14 : decode prog_9_method_13_code 14 = .ok (.iload_n 1, 1) := by decide +kernel
theorem d_Not_string_15 : decode prog_9_method_13_code 15 = .ok (.iconst 1, 1) := by decide +kernel
theorem d_Not_string_16 : decode prog_9_method_13_code 16 = .ok (.iadd, 1) := by decide +kernel
theorem d_Not_string_17 : decode prog_9_method_13_code 17 = .ok (.istore 4, 2) := by decide +kernel
theorem g_Not_string {X : cd_E} {kc ks : Nat} {h : cd_H} {Q : Option Value → cd_H → Prop} {p1 : Int32} (F : cc_ok h) (H : cd_W X m_SB_init_V 1 16 0 [some (.ref (cd_n h))] [] (cd_new h (.inl 14)) (fun r1 h2 => (r1 = none) ∧ ((cc_ok h2) ∧ (cd_W X m_Not_endOfString 0 0 0 [some (.ref 71), some (.int p1), none] [] h2 (fun r4 h5 => ∃ x6 : Int32, r4 = some (.int x6) ∧ ((cc_ok h5) ∧ (cd_W X m_Not_string kc ks 19 [some (.ref 71), none, some (.ref (cd_n h)), some (.int x6), some (.int (p1 + 1))] [] h5 Q))))))) : cd_W X m_Not_string (kc + 2) (ks + 20) 0 [some (.ref 71), some (.int p1), none, none, none] [] h Q := by
  refine cd_newo (kc := (kc + 1)) (ks := (ks + 16)) d_Not_string_0 nc_Not_56 ?_
  refine cd_dup d_Not_string_3 rfl ?_
  refine cd_callI (kc := (kc + 0)) (ks := (ks + 0)) (kc' := 1) (ks' := 16) (As := []) (S := [.ref (cd_n h)]) d_Not_string_4 ca_Not_string_58 rfl (Nat.le_of_ble_eq_true rfl) (Nat.le_of_ble_eq_true rfl) ?_
  refine cd_W.mono (fun r1 h2 H => ?_) H
  obtain ⟨rfl, H⟩ := H
  obtain ⟨F3, H⟩ := H
  show cd_W X m_Not_string (kc + 0) (ks + 0) 7 [some (.ref 71), some (.int p1), none, none, none] [.ref (cd_n h)] h2 Q
  refine cd_astore_n (i := 2) d_Not_string_7 rfl (by decide) (cd_isr_ref _) ?_
  show cd_W X m_Not_string (kc + 0) (ks + 0) 8 [some (.ref 71), some (.int p1), some (.ref (cd_n h)), none, none] [] h2 Q
  refine cd_aload_n (i := 0) (v := .ref 71) d_Not_string_8 rfl rfl (cd_isr_ref _) ?_
  refine cd_iload_n (i := 1) d_Not_string_9 rfl rfl ?_
  refine cd_callV (kc := (kc + 0)) (ks := (ks + 0)) (kc' := 0) (ks' := 0) (As := [.int p1]) (S := []) d_Not_string_10 ca_Not_string_32 (cc_k71 F3) rfl (Nat.le_of_ble_eq_true rfl) (Nat.le_of_ble_eq_true rfl) ?_
  refine cd_W.mono (fun r4 h5 H => ?_) H
  obtain ⟨x6, rfl, H⟩ := H
  obtain ⟨F7, H⟩ := H
  show cd_W X m_Not_string (kc + 0) (ks + 0) 13 [some (.ref 71), some (.int p1), some (.ref (cd_n h)), none, none] [.int x6] h5 Q
  refine cd_istore_n (i := 3) d_Not_string_13 rfl (by decide) ?_
  show cd_W X m_Not_string (kc + 0) (ks + 0) 14 [some (.ref 71), some (.int p1), some (.ref (cd_n h)), some (.int x6), none] [] h5 Q
  refine cd_iload_n (i := 1) d_Not_string_14 rfl rfl ?_
  refine cd_iconst (v := 1) d_Not_string_15 (by decide) ?_
  refine cd_iadd d_Not_string_16 ?_
  refine cd_istore (i := 4) d_Not_string_17 (by decide) ?_
  show cd_W X m_Not_string (kc + 0) (ks + 0) 19 [some (.ref 71), some (.int p1), some (.ref (cd_n h)), some (.int x6), some (.int (p1 + 1))] [] h5 Q
  refine cd_W.drop (i := 1) ?_
  refine cd_W.budget (kc := kc) (ks := ks) (by omega) (by omega) ?_
  exact H

theorem d_Not_string_19 : decode prog_9_method_13_code 19 = .ok (.iload 4, 2) := by decide +kernel
theorem d_Not_string_21 : decode prog_9_method_13_code 21 = .ok (.iload_n 3, 1) := by decide +kernel
theorem d_Not_string_22 : decode prog_9_method_13_code 22 = .ok (.iconst 1, 1) := by decide +kernel
theorem d_Not_string_23 : decode prog_9_method_13_code 23 = .ok (.isub, 1) := by decide +kernel
theorem d_Not_string_24 : decode prog_9_method_13_code 24 = .ok (.if_icmp .ge 21, 3) := by decide +kernel
theorem d_Not_string_45 : decode prog_9_method_13_code 45 = .ok (.aload_n 2, 1) := by decide +kernel
theorem d_Not_string_46 : decode prog_9_method_13_code 46 = .ok (.invokevirtual 63, 3) := by decide +kernel
abbrev m_SB_toString : cd_M := (⟨"java/lang/StringBuilder", "toString", "()Ljava/lang/String;"⟩, prog_22_method_42_code, 1, some (.object "java/lang/String"), 7, 157)
theorem kw_3_151 : (Jvm.Cond.methodLink "CertificateDesk$Notation" (63 : Nat) ({ cls := "java/lang/StringBuilder", name := "toString", desc := "()Ljava/lang/String;" } : Jvm.MethodName)) ∈ cd_tbl := tb_3 (List.mem_of_getElem? (i := 151) (by decide +kernel)) (by decide)
theorem kw_3_154 : (Jvm.Cond.code ({ cls := "java/lang/StringBuilder", name := "toString", desc := "()Ljava/lang/String;" } : Jvm.MethodName) prog_22_method_42_code (1 : Nat) (Option.some (Jvm.ClassFile.FieldType.object "java/lang/String"))) ∈ cd_tbl := tb_3 (List.mem_of_getElem? (i := 154) (by decide +kernel)) (by decide)
theorem kw_3_152 : (Jvm.Cond.instanceMethod ({ cls := "java/lang/StringBuilder", name := "toString", desc := "()Ljava/lang/String;" } : Jvm.MethodName)) ∈ cd_tbl := tb_3 (List.mem_of_getElem? (i := 152) (by decide +kernel)) (by decide)
theorem kw_3_153 : (Jvm.Cond.selects "java/lang/StringBuilder" ({ cls := "java/lang/StringBuilder", name := "toString", desc := "()Ljava/lang/String;" } : Jvm.MethodName) ({ cls := "java/lang/StringBuilder", name := "toString", desc := "()Ljava/lang/String;" } : Jvm.MethodName)) ∈ cd_tbl := tb_3 (List.mem_of_getElem? (i := 153) (by decide +kernel)) (by decide)
theorem ca_Not_string_63 {X : cd_E} : cd_CV X m_Not_string m_SB_toString 63 0 14 := ⟨⟨by decide, kw_3_154, kw_1_25, ⟨by decide, by decide, by decide +kernel⟩, by decide, by decide⟩, ⟨_, rfl, rfl⟩, kw_3_152, kw_3_153, (Or.inl kw_3_151)⟩
theorem d_Not_string_49 : decode prog_9_method_13_code 49 = .ok (.areturn, 1) := by decide +kernel
theorem d_Not_string_27 : decode prog_9_method_13_code 27 = .ok (.aload_n 2, 1) := by decide +kernel
theorem d_Not_string_28 : decode prog_9_method_13_code 28 = .ok (.aload_n 0, 1) := by decide +kernel
theorem d_Not_string_29 : decode prog_9_method_13_code 29 = .ok (.getfield 11, 3) := by decide +kernel
theorem d_Not_string_32 : decode prog_9_method_13_code 32 = .ok (.iload 4, 2) := by decide +kernel
theorem d_Not_string_34 : decode prog_9_method_13_code 34 = .ok (.caload, 1) := by decide +kernel
theorem d_Not_string_35 : decode prog_9_method_13_code 35 = .ok (.invokevirtual 59, 3) := by decide +kernel
abbrev m_SB_append_CLStringBuilder : cd_M := (⟨"java/lang/StringBuilder", "append", "(C)Ljava/lang/StringBuilder;"⟩, prog_22_method_14_code, 2, some (.object "java/lang/StringBuilder"), 27, 592)
theorem kw_3_91 : (Jvm.Cond.methodLink "CertificateDesk$Notation" (59 : Nat) ({ cls := "java/lang/StringBuilder", name := "append", desc := "(C)Ljava/lang/StringBuilder;" } : Jvm.MethodName)) ∈ cd_tbl := tb_3 (List.mem_of_getElem? (i := 91) (by decide +kernel)) (by decide)
theorem kw_3_94 : (Jvm.Cond.code ({ cls := "java/lang/StringBuilder", name := "append", desc := "(C)Ljava/lang/StringBuilder;" } : Jvm.MethodName) prog_22_method_14_code (2 : Nat) (Option.some (Jvm.ClassFile.FieldType.object "java/lang/StringBuilder"))) ∈ cd_tbl := tb_3 (List.mem_of_getElem? (i := 94) (by decide +kernel)) (by decide)
theorem kw_3_92 : (Jvm.Cond.instanceMethod ({ cls := "java/lang/StringBuilder", name := "append", desc := "(C)Ljava/lang/StringBuilder;" } : Jvm.MethodName)) ∈ cd_tbl := tb_3 (List.mem_of_getElem? (i := 92) (by decide +kernel)) (by decide)
theorem kw_3_93 : (Jvm.Cond.selects "java/lang/StringBuilder" ({ cls := "java/lang/StringBuilder", name := "append", desc := "(C)Ljava/lang/StringBuilder;" } : Jvm.MethodName) ({ cls := "java/lang/StringBuilder", name := "append", desc := "(C)Ljava/lang/StringBuilder;" } : Jvm.MethodName)) ∈ cd_tbl := tb_3 (List.mem_of_getElem? (i := 93) (by decide +kernel)) (by decide)
theorem ca_Not_string_59 {X : cd_E} : cd_CV X m_Not_string m_SB_append_CLStringBuilder 59 1 14 := ⟨⟨by decide, kw_3_94, kw_1_25, ⟨by decide, by decide, by decide +kernel⟩, by decide, by decide⟩, ⟨_, rfl, rfl⟩, kw_3_92, kw_3_93, (Or.inl kw_3_91)⟩
theorem d_Not_string_38 : decode prog_9_method_13_code 38 = .ok (.pop, 1) := by decide +kernel
theorem d_Not_string_39 : decode prog_9_method_13_code 39 = .ok (.iinc 4 1, 3) := by decide +kernel
theorem d_Not_string_42 : decode prog_9_method_13_code 42 = .ok (.goto (-23), 3) := by decide +kernel
theorem g_Not_string_19 {X : cd_E} {kc ks : Nat} {h : cd_H} {Q : Option Value → cd_H → Prop} {v2 : Nat} {v3 : Int32} {v4 : Int32} (F : cc_ok h) (H : ((((v3 - 1) ≤ v4) → ((cd_k h v2 = some (.inl 14)) ∧ (cd_W X m_SB_toString 2 16 0 [some (.ref v2)] [] h (fun r3 h4 => ∃ b5 : Nat, r3 = some (.ref b5) ∧ ((cc_ok h4) ∧ (Q (some (.ref b5)) h4)))))) ∧ ((¬ (v3 - 1) ≤ v4) → ((vp_in v4 96) ∧ ((cd_k h v2 = some (.inl 14)) ∧ (cd_W X m_SB_append_CLStringBuilder 1 34 0 [some (.ref v2), some (.int (cd_i h 72 v4.toNatClampNeg))] [] h (fun r9 h10 => ∃ b11 : Nat, r9 = some (.ref b11) ∧ ((cc_ok h10) ∧ (cd_W X m_Not_string kc ks 19 [some (.ref 71), none, some (.ref v2), some (.int v3), some (.int (v4 + 1))] [] h10 Q))))))))) : cd_W X m_Not_string (kc + 2) (ks + 34) 19 [some (.ref 71), none, some (.ref v2), some (.int v3), some (.int v4)] [] h Q := by
  refine cd_iload (i := 4) d_Not_string_19 rfl ?_
  refine cd_iload_n (i := 3) d_Not_string_21 rfl rfl ?_
  refine cd_iconst (v := 1) d_Not_string_22 (by decide) ?_
  refine cd_isub d_Not_string_23 ?_
  refine cd_icmp_ge (tgt := 45) d_Not_string_24 (by decide) (fun t1 => ?_) (fun t1 => ?_)
  · replace H := H.1 t1
    refine cd_aload_n (i := 2) (v := .ref v2) d_Not_string_45 rfl rfl (cd_isr_ref _) ?_
    obtain ⟨c2, H⟩ := H
    refine cd_callV (kc := (kc + 0)) (ks := (ks + 18)) (kc' := 2) (ks' := 16) (As := []) (S := []) d_Not_string_46 ca_Not_string_63 c2 rfl (Nat.le_of_ble_eq_true rfl) (Nat.le_of_ble_eq_true rfl) ?_
    refine cd_W.mono (fun r3 h4 H => ?_) H
    obtain ⟨b5, rfl, H⟩ := H
    obtain ⟨F6, H⟩ := H
    show cd_W X m_Not_string (kc + 0) (ks + 18) 49 [some (.ref 71), none, some (.ref v2), some (.int v3), some (.int v4)] [.ref b5] h4 Q
    exact cd_aret d_Not_string_49 rfl (Or.inl ⟨_, rfl⟩) (cd_isr_ref _) H
  · replace H := H.2 t1
    refine cd_aload_n (i := 2) (v := .ref v2) d_Not_string_27 rfl rfl (cd_isr_ref _) ?_
    refine cd_aload_n (i := 0) (v := .ref 71) d_Not_string_28 rfl rfl (cd_isr_ref _) ?_
    refine cd_get (v := .ref 72) d_Not_string_29 fl_Not_11 (cc_k71 F) (congrArg va_rf (cc_r71_0 F)) ?_
    refine cd_iload (i := 4) d_Not_string_32 rfl ?_
    obtain ⟨c7, H⟩ := H
    refine cd_cald (j := v4) d_Not_string_34 rfl (cc_k72 F) c7 ?_
    obtain ⟨c8, H⟩ := H
    refine cd_callV (kc := (kc + 1)) (ks := (ks + 0)) (kc' := 1) (ks' := 34) (As := [.int (cd_i h 72 v4.toNatClampNeg)]) (S := []) d_Not_string_35 ca_Not_string_59 c8 rfl (Nat.le_of_ble_eq_true rfl) (Nat.le_of_ble_eq_true rfl) ?_
    refine cd_W.mono (fun r9 h10 H => ?_) H
    obtain ⟨b11, rfl, H⟩ := H
    obtain ⟨F12, H⟩ := H
    show cd_W X m_Not_string (kc + 1) (ks + 0) 38 [some (.ref 71), none, some (.ref v2), some (.int v3), some (.int v4)] [.ref b11] h10 Q
    refine cd_pop d_Not_string_38 rfl ?_
    refine cd_iinc (i := 4) (v := (v4 + 1)) d_Not_string_39 rfl (cd_inc1 _) (by decide) ?_
    show cd_W X m_Not_string (kc + 1) (ks + 0) 42 [some (.ref 71), none, some (.ref v2), some (.int v3), some (.int (v4 + 1))] [] h10 Q
    refine cd_goto (tgt := 19) d_Not_string_42 (by decide) ?_
    refine cd_W.budget (kc := kc) (ks := ks) (by omega) (by omega) ?_
    exact H

theorem d_Not_has_0 : decode prog_9_method_14_code 0 = .ok (.iload_n 1, 1) := by decide +kernel
theorem d_Not_has_1 : decode prog_9_method_14_code 1 = .ok (.ifCond .lt 25, 3) := by decide +kernel
theorem d_Not_has_26 : decode prog_9_method_14_code 26 = .ok (.iconst 0, 1) := by decide +kernel
theorem d_Not_has_27 : decode prog_9_method_14_code 27 = .ok (.ireturn, 1) := by decide +kernel
theorem d_Not_has_4 : decode prog_9_method_14_code 4 = .ok (.iload_n 1, 1) := by decide +kernel
theorem d_Not_has_5 : decode prog_9_method_14_code 5 = .ok (.aload_n 0, 1) := by decide +kernel
theorem d_Not_has_6 : decode prog_9_method_14_code 6 = .ok (.getfield 15, 3) := by decide +kernel
theorem d_Not_has_9 : decode prog_9_method_14_code 9 = .ok (.if_icmp .ge 17, 3) := by decide +kernel
theorem d_Not_has_12 : decode prog_9_method_14_code 12 = .ok (.aload_n 0, 1) := by decide +kernel
theorem d_Not_has_13 : decode prog_9_method_14_code 13 = .ok (.getfield 11, 3) := by decide +kernel
theorem d_Not_has_16 : decode prog_9_method_14_code 16 = .ok (.iload_n 1, 1) := by decide +kernel
theorem d_Not_has_17 : decode prog_9_method_14_code 17 = .ok (.caload, 1) := by decide +kernel
theorem d_Not_has_18 : decode prog_9_method_14_code 18 = .ok (.iload_n 2, 1) := by decide +kernel
theorem d_Not_has_19 : decode prog_9_method_14_code 19 = .ok (.if_icmp .ne 7, 3) := by decide +kernel
theorem d_Not_has_22 : decode prog_9_method_14_code 22 = .ok (.iconst 1, 1) := by decide +kernel
theorem d_Not_has_23 : decode prog_9_method_14_code 23 = .ok (.goto 4, 3) := by decide +kernel
theorem g_Not_has {X : cd_E} {kc ks : Nat} {h : cd_H} {Q : Option Value → cd_H → Prop} {p1 : Int32} {p2 : Int32} (F : cc_ok h) (H : (((p1 < 0) → (Q (some (.int 0)) h)) ∧ ((¬ p1 < 0) → (((((cd_i h 71 1) ≤ p1) → (Q (some (.int 0)) h)) ∧ ((¬ (cd_i h 71 1) ≤ p1) → ((vp_in p1 96) ∧ ((((¬ (cd_i h 72 p1.toNatClampNeg) = p2) → (Q (some (.int 0)) h)) ∧ (((cd_i h 72 p1.toNatClampNeg) = p2) → (Q (some (.int 1)) h))))))))))) : cd_W X m_Not_has kc ks 0 [some (.ref 71), some (.int p1), some (.int p2)] [] h Q := by
  refine cd_iload_n (i := 1) d_Not_has_0 rfl rfl ?_
  refine cd_if_lt (tgt := 26) d_Not_has_1 (by decide) (fun t1 => ?_) (fun t1 => ?_)
  · replace H := H.1 t1
    refine cd_iconst (v := 0) d_Not_has_26 (by decide) ?_
    exact cd_iret d_Not_has_27 rfl rfl H
  · replace H := H.2 t1
    refine cd_iload_n (i := 1) d_Not_has_4 rfl rfl ?_
    refine cd_aload_n (i := 0) (v := .ref 71) d_Not_has_5 rfl rfl (cd_isr_ref _) ?_
    refine cd_get (v := .int (cd_i h 71 1)) d_Not_has_6 fl_Not_15 (cc_k71 F) rfl ?_
    refine cd_icmp_ge (tgt := 26) d_Not_has_9 (by decide) (fun t2 => ?_) (fun t2 => ?_)
    · replace H := H.1 t2
      refine cd_iconst (v := 0) d_Not_has_26 (by decide) ?_
      exact cd_iret d_Not_has_27 rfl rfl H
    · replace H := H.2 t2
      refine cd_aload_n (i := 0) (v := .ref 71) d_Not_has_12 rfl rfl (cd_isr_ref _) ?_
      refine cd_get (v := .ref 72) d_Not_has_13 fl_Not_11 (cc_k71 F) (congrArg va_rf (cc_r71_0 F)) ?_
      refine cd_iload_n (i := 1) d_Not_has_16 rfl rfl ?_
      obtain ⟨c3, H⟩ := H
      refine cd_cald (j := p1) d_Not_has_17 rfl (cc_k72 F) c3 ?_
      refine cd_iload_n (i := 2) d_Not_has_18 rfl rfl ?_
      refine cd_icmp_ne (tgt := 26) d_Not_has_19 (by decide) (fun t4 => ?_) (fun t4 => ?_)
      · replace H := H.1 t4
        refine cd_iconst (v := 0) d_Not_has_26 (by decide) ?_
        exact cd_iret d_Not_has_27 rfl rfl H
      · replace H := H.2 t4
        refine cd_iconst (v := 1) d_Not_has_22 (by decide) ?_
        refine cd_goto (tgt := 27) d_Not_has_23 (by decide) ?_
        exact cd_iret d_Not_has_27 rfl rfl H

theorem d_Not_hasDigit_0 : decode prog_9_method_15_code 0 = .ok (.iload_n 1, 1) := by decide +kernel
theorem d_Not_hasDigit_1 : decode prog_9_method_15_code 1 = .ok (.ifCond .lt 37, 3) := by decide +kernel
theorem d_Not_hasDigit_38 : decode prog_9_method_15_code 38 = .ok (.iconst 0, 1) := by decide +kernel
theorem d_Not_hasDigit_39 : decode prog_9_method_15_code 39 = .ok (.ireturn, 1) := by decide +kernel
theorem d_Not_hasDigit_4 : decode prog_9_method_15_code 4 = .ok (.iload_n 1, 1) := by decide +kernel
theorem d_Not_hasDigit_5 : decode prog_9_method_15_code 5 = .ok (.aload_n 0, 1) := by decide +kernel
theorem d_Not_hasDigit_6 : decode prog_9_method_15_code 6 = .ok (.getfield 15, 3) := by decide +kernel
theorem d_Not_hasDigit_9 : decode prog_9_method_15_code 9 = .ok (.if_icmp .ge 29, 3) := by decide +kernel
theorem d_Not_hasDigit_12 : decode prog_9_method_15_code 12 = .ok (.aload_n 0, 1) := by decide +kernel
theorem d_Not_hasDigit_13 : decode prog_9_method_15_code 13 = .ok (.getfield 11, 3) := by decide +kernel
theorem d_Not_hasDigit_16 : decode prog_9_method_15_code 16 = .ok (.iload_n 1, 1) := by decide +kernel
theorem d_Not_hasDigit_17 : decode prog_9_method_15_code 17 = .ok (.caload, 1) := by decide +kernel
theorem d_Not_hasDigit_18 : decode prog_9_method_15_code 18 = .ok (.bipush 48, 2) := by decide +kernel
theorem d_Not_hasDigit_20 : decode prog_9_method_15_code 20 = .ok (.if_icmp .lt 18, 3) := by decide +kernel
theorem d_Not_hasDigit_23 : decode prog_9_method_15_code 23 = .ok (.aload_n 0, 1) := by decide +kernel
theorem d_Not_hasDigit_24 : decode prog_9_method_15_code 24 = .ok (.getfield 11, 3) := by decide +kernel
theorem d_Not_hasDigit_27 : decode prog_9_method_15_code 27 = .ok (.iload_n 1, 1) := by decide +kernel
theorem d_Not_hasDigit_28 : decode prog_9_method_15_code 28 = .ok (.caload, 1) := by decide +kernel
theorem d_Not_hasDigit_29 : decode prog_9_method_15_code 29 = .ok (.bipush 57, 2) := by decide +kernel
theorem d_Not_hasDigit_31 : decode prog_9_method_15_code 31 = .ok (.if_icmp .gt 7, 3) := by decide +kernel
theorem d_Not_hasDigit_34 : decode prog_9_method_15_code 34 = .ok (.iconst 1, 1) := by decide +kernel
theorem d_Not_hasDigit_35 : decode prog_9_method_15_code 35 = .ok (.goto 4, 3) := by decide +kernel
theorem g_Not_hasDigit {X : cd_E} {kc ks : Nat} {h : cd_H} {Q : Option Value → cd_H → Prop} {p1 : Int32} (F : cc_ok h) (H : (((p1 < 0) → (Q (some (.int 0)) h)) ∧ ((¬ p1 < 0) → (((((cd_i h 71 1) ≤ p1) → (Q (some (.int 0)) h)) ∧ ((¬ (cd_i h 71 1) ≤ p1) → ((vp_in p1 96) ∧ (((((cd_i h 72 p1.toNatClampNeg) < 48) → (Q (some (.int 0)) h)) ∧ ((¬ (cd_i h 72 p1.toNatClampNeg) < 48) → ((((57 < (cd_i h 72 p1.toNatClampNeg)) → (Q (some (.int 0)) h)) ∧ ((¬ 57 < (cd_i h 72 p1.toNatClampNeg)) → (Q (some (.int 1)) h)))))))))))))) : cd_W X m_Not_hasDigit kc ks 0 [some (.ref 71), some (.int p1)] [] h Q := by
  refine cd_iload_n (i := 1) d_Not_hasDigit_0 rfl rfl ?_
  refine cd_if_lt (tgt := 38) d_Not_hasDigit_1 (by decide) (fun t1 => ?_) (fun t1 => ?_)
  · replace H := H.1 t1
    refine cd_iconst (v := 0) d_Not_hasDigit_38 (by decide) ?_
    exact cd_iret d_Not_hasDigit_39 rfl rfl H
  · replace H := H.2 t1
    refine cd_iload_n (i := 1) d_Not_hasDigit_4 rfl rfl ?_
    refine cd_aload_n (i := 0) (v := .ref 71) d_Not_hasDigit_5 rfl rfl (cd_isr_ref _) ?_
    refine cd_get (v := .int (cd_i h 71 1)) d_Not_hasDigit_6 fl_Not_15 (cc_k71 F) rfl ?_
    refine cd_icmp_ge (tgt := 38) d_Not_hasDigit_9 (by decide) (fun t2 => ?_) (fun t2 => ?_)
    · replace H := H.1 t2
      refine cd_iconst (v := 0) d_Not_hasDigit_38 (by decide) ?_
      exact cd_iret d_Not_hasDigit_39 rfl rfl H
    · replace H := H.2 t2
      refine cd_aload_n (i := 0) (v := .ref 71) d_Not_hasDigit_12 rfl rfl (cd_isr_ref _) ?_
      refine cd_get (v := .ref 72) d_Not_hasDigit_13 fl_Not_11 (cc_k71 F) (congrArg va_rf (cc_r71_0 F)) ?_
      refine cd_iload_n (i := 1) d_Not_hasDigit_16 rfl rfl ?_
      obtain ⟨c3, H⟩ := H
      refine cd_cald (j := p1) d_Not_hasDigit_17 rfl (cc_k72 F) c3 ?_
      refine cd_bipush (v := 48) d_Not_hasDigit_18 (by decide) ?_
      refine cd_icmp_lt (tgt := 38) d_Not_hasDigit_20 (by decide) (fun t4 => ?_) (fun t4 => ?_)
      · replace H := H.1 t4
        refine cd_iconst (v := 0) d_Not_hasDigit_38 (by decide) ?_
        exact cd_iret d_Not_hasDigit_39 rfl rfl H
      · replace H := H.2 t4
        refine cd_aload_n (i := 0) (v := .ref 71) d_Not_hasDigit_23 rfl rfl (cd_isr_ref _) ?_
        refine cd_get (v := .ref 72) d_Not_hasDigit_24 fl_Not_11 (cc_k71 F) (congrArg va_rf (cc_r71_0 F)) ?_
        refine cd_iload_n (i := 1) d_Not_hasDigit_27 rfl rfl ?_
        refine cd_cald (j := p1) d_Not_hasDigit_28 rfl (cc_k72 F) c3 ?_
        refine cd_bipush (v := 57) d_Not_hasDigit_29 (by decide) ?_
        refine cd_icmp_gt (tgt := 38) d_Not_hasDigit_31 (by decide) (fun t5 => ?_) (fun t5 => ?_)
        · replace H := H.1 t5
          refine cd_iconst (v := 0) d_Not_hasDigit_38 (by decide) ?_
          exact cd_iret d_Not_hasDigit_39 rfl rfl H
        · replace H := H.2 t5
          refine cd_iconst (v := 1) d_Not_hasDigit_34 (by decide) ?_
          refine cd_goto (tgt := 39) d_Not_hasDigit_35 (by decide) ?_
          exact cd_iret d_Not_hasDigit_39 rfl rfl H

theorem d_Not_endOfValue_0 : decode prog_9_method_16_code 0 = .ok (.aload_n 0, 1) := by decide +kernel
theorem d_Not_endOfValue_1 : decode prog_9_method_16_code 1 = .ok (.iload_n 1, 1) := by decide +kernel
theorem d_Not_endOfValue_2 : decode prog_9_method_16_code 2 = .ok (.bipush 34, 2) := by decide +kernel
theorem d_Not_endOfValue_4 : decode prog_9_method_16_code 4 = .ok (.invokevirtual 25, 3) := by decide +kernel
theorem ca_Not_endOfValue_25 {X : cd_E} {d : Nat} : cd_CV X (m_Not_endOfValue d) m_Not_has 25 2 6 := ⟨⟨by decide, kw_2_45, kw_1_3, ⟨by decide, by decide, by decide +kernel⟩, (by show 1 + 1 ≤ 2 * d + 6; omega), (by show 8 + (3 + 11) + (20) ≤ 200 * d + 300; omega)⟩, ⟨_, rfl, rfl⟩, kw_2_44, kp_6, (Or.inl kw_2_42)⟩
theorem d_Not_endOfValue_7 : decode prog_9_method_16_code 7 = .ok (.ifCond .eq 9, 3) := by decide +kernel
theorem d_Not_endOfValue_16 : decode prog_9_method_16_code 16 = .ok (.aload_n 0, 1) := by decide +kernel
theorem d_Not_endOfValue_17 : decode prog_9_method_16_code 17 = .ok (.iload_n 1, 1) := by decide +kernel
theorem d_Not_endOfValue_18 : decode prog_9_method_16_code 18 = .ok (.bipush 91, 2) := by decide +kernel
theorem d_Not_endOfValue_20 : decode prog_9_method_16_code 20 = .ok (.invokevirtual 25, 3) := by decide +kernel
theorem d_Not_endOfValue_23 : decode prog_9_method_16_code 23 = .ok (.ifCond .eq 14, 3) := by decide +kernel
theorem d_Not_endOfValue_37 : decode prog_9_method_16_code 37 = .ok (.aload_n 0, 1) := by decide +kernel
theorem d_Not_endOfValue_38 : decode prog_9_method_16_code 38 = .ok (.iload_n 1, 1) := by decide +kernel
theorem d_Not_endOfValue_39 : decode prog_9_method_16_code 39 = .ok (.bipush 123, 2) := by decide +kernel
theorem d_Not_endOfValue_41 : decode prog_9_method_16_code 41 = .ok (.invokevirtual 25, 3) := by decide +kernel
theorem d_Not_endOfValue_44 : decode prog_9_method_16_code 44 = .ok (.ifCond .eq 14, 3) := by decide +kernel
theorem d_Not_endOfValue_58 : decode prog_9_method_16_code 58 = .ok (.aload_n 0, 1) := by decide +kernel
theorem d_Not_endOfValue_59 : decode prog_9_method_16_code 59 = .ok (.iload_n 1, 1) := by decide +kernel
theorem d_Not_endOfValue_60 : decode prog_9_method_16_code 60 = .ok (.invokevirtual 71, 3) := by decide +kernel
abbrev m_Not_endOfNumber : cd_M := (⟨"CertificateDesk$Notation", "endOfNumber", "(I)I"⟩, prog_9_method_19_code, 4, some .int, 2, 42)
theorem kw_2_58 : (Jvm.Cond.methodLink "CertificateDesk$Notation" (71 : Nat) ({ cls := "CertificateDesk$Notation", name := "endOfNumber", desc := "(I)I" } : Jvm.MethodName)) ∈ cd_tbl := tb_2 (List.mem_of_getElem? (i := 58) (by decide +kernel)) (by decide)
theorem kw_2_61 : (Jvm.Cond.code ({ cls := "CertificateDesk$Notation", name := "endOfNumber", desc := "(I)I" } : Jvm.MethodName) prog_9_method_19_code (4 : Nat) (Option.some Jvm.ClassFile.FieldType.int)) ∈ cd_tbl := tb_2 (List.mem_of_getElem? (i := 61) (by decide +kernel)) (by decide)
theorem kw_2_60 : (Jvm.Cond.instanceMethod ({ cls := "CertificateDesk$Notation", name := "endOfNumber", desc := "(I)I" } : Jvm.MethodName)) ∈ cd_tbl := tb_2 (List.mem_of_getElem? (i := 60) (by decide +kernel)) (by decide)
theorem kp_10 : Cond.selects "CertificateDesk$Notation" ⟨"CertificateDesk$Notation", "endOfNumber", "(I)I"⟩ ⟨"CertificateDesk$Notation", "endOfNumber", "(I)I"⟩ ∈ cd_tbl := cd_sel (List.mem_of_getElem? (i := 10) (by decide +kernel)) (by decide)
theorem ca_Not_endOfValue_71 {X : cd_E} {d : Nat} : cd_CV X (m_Not_endOfValue d) m_Not_endOfNumber 71 1 6 := ⟨⟨by decide, kw_2_61, kw_1_3, ⟨by decide, by decide, by decide +kernel⟩, (by show 2 + 1 ≤ 2 * d + 6; omega), (by show 8 + (4 + 11) + (42) ≤ 200 * d + 300; omega)⟩, ⟨_, rfl, rfl⟩, kw_2_60, kp_10, (Or.inl kw_2_58)⟩
theorem d_Not_endOfValue_63 : decode prog_9_method_16_code 63 = .ok (.ireturn, 1) := by decide +kernel
theorem d_Not_endOfValue_47 : decode prog_9_method_16_code 47 = .ok (.aload_n 0, 1) := by decide +kernel
theorem d_Not_endOfValue_48 : decode prog_9_method_16_code 48 = .ok (.iload_n 1, 1) := by decide +kernel
theorem d_Not_endOfValue_49 : decode prog_9_method_16_code 49 = .ok (.bipush 125, 2) := by decide +kernel
theorem d_Not_endOfValue_51 : decode prog_9_method_16_code 51 = .ok (.iload_n 2, 1) := by decide +kernel
theorem d_Not_endOfValue_52 : decode prog_9_method_16_code 52 = .ok (.iconst 1, 1) := by decide +kernel
theorem d_Not_endOfValue_53 : decode prog_9_method_16_code 53 = .ok (.iadd, 1) := by decide +kernel
theorem d_Not_endOfValue_54 : decode prog_9_method_16_code 54 = .ok (.invokevirtual 67, 3) := by decide +kernel
abbrev m_Not_endOfParts (d : Nat) : cd_M := (⟨"CertificateDesk$Notation", "endOfParts", "(ICI)I"⟩, prog_9_method_17_code, 7, some .int, 2 * d + 5, 200 * d + 200)
theorem kw_2_54 : (Jvm.Cond.methodLink "CertificateDesk$Notation" (67 : Nat) ({ cls := "CertificateDesk$Notation", name := "endOfParts", desc := "(ICI)I" } : Jvm.MethodName)) ∈ cd_tbl := tb_2 (List.mem_of_getElem? (i := 54) (by decide +kernel)) (by decide)
theorem kw_2_57 : (Jvm.Cond.code ({ cls := "CertificateDesk$Notation", name := "endOfParts", desc := "(ICI)I" } : Jvm.MethodName) prog_9_method_17_code (7 : Nat) (Option.some Jvm.ClassFile.FieldType.int)) ∈ cd_tbl := tb_2 (List.mem_of_getElem? (i := 57) (by decide +kernel)) (by decide)
theorem kw_2_56 : (Jvm.Cond.instanceMethod ({ cls := "CertificateDesk$Notation", name := "endOfParts", desc := "(ICI)I" } : Jvm.MethodName)) ∈ cd_tbl := tb_2 (List.mem_of_getElem? (i := 56) (by decide +kernel)) (by decide)
theorem kp_9 : Cond.selects "CertificateDesk$Notation" ⟨"CertificateDesk$Notation", "endOfParts", "(ICI)I"⟩ ⟨"CertificateDesk$Notation", "endOfParts", "(ICI)I"⟩ ∈ cd_tbl := cd_sel (List.mem_of_getElem? (i := 9) (by decide +kernel)) (by decide)
theorem ca_Not_endOfValue_67 {X : cd_E} {d : Nat} : cd_CV X (m_Not_endOfValue d) (m_Not_endOfParts d) 67 3 6 := ⟨⟨by decide, kw_2_57, kw_1_3, ⟨by decide, by decide, by decide +kernel⟩, (by show 2 * d + 5 + 1 ≤ 2 * d + 6; omega), (by show 8 + (7 + 11) + (200 * d + 200) ≤ 200 * d + 300; omega)⟩, ⟨_, rfl, rfl⟩, kw_2_56, kp_9, (Or.inl kw_2_54)⟩
theorem d_Not_endOfValue_57 : decode prog_9_method_16_code 57 = .ok (.ireturn, 1) := by decide +kernel
theorem d_Not_endOfValue_26 : decode prog_9_method_16_code 26 = .ok (.aload_n 0, 1) := by decide +kernel
theorem d_Not_endOfValue_27 : decode prog_9_method_16_code 27 = .ok (.iload_n 1, 1) := by decide +kernel
theorem d_Not_endOfValue_28 : decode prog_9_method_16_code 28 = .ok (.bipush 93, 2) := by decide +kernel
theorem d_Not_endOfValue_30 : decode prog_9_method_16_code 30 = .ok (.iload_n 2, 1) := by decide +kernel
theorem d_Not_endOfValue_31 : decode prog_9_method_16_code 31 = .ok (.iconst 1, 1) := by decide +kernel
theorem d_Not_endOfValue_32 : decode prog_9_method_16_code 32 = .ok (.iadd, 1) := by decide +kernel
theorem d_Not_endOfValue_33 : decode prog_9_method_16_code 33 = .ok (.invokevirtual 67, 3) := by decide +kernel
theorem d_Not_endOfValue_36 : decode prog_9_method_16_code 36 = .ok (.ireturn, 1) := by decide +kernel
theorem d_Not_endOfValue_10 : decode prog_9_method_16_code 10 = .ok (.aload_n 0, 1) := by decide +kernel
theorem d_Not_endOfValue_11 : decode prog_9_method_16_code 11 = .ok (.iload_n 1, 1) := by decide +kernel
theorem d_Not_endOfValue_12 : decode prog_9_method_16_code 12 = .ok (.invokevirtual 32, 3) := by decide +kernel
theorem ca_Not_endOfValue_32 {X : cd_E} {d : Nat} : cd_CV X (m_Not_endOfValue d) m_Not_endOfString 32 1 6 := ⟨⟨by decide, kw_2_53, kw_1_3, ⟨by decide, by decide, by decide +kernel⟩, (by show 2 + 1 ≤ 2 * d + 6; omega), (by show 8 + (3 + 11) + (42) ≤ 200 * d + 300; omega)⟩, ⟨_, rfl, rfl⟩, kw_2_52, kp_8, (Or.inl kw_2_50)⟩
theorem d_Not_endOfValue_15 : decode prog_9_method_16_code 15 = .ok (.ireturn, 1) := by decide +kernel
theorem g_Not_endOfValue {X : cd_E} {kc ks : Nat} {h : cd_H} {Q : Option Value → cd_H → Prop} {d : Nat} {p1 : Int32} {p2 : Int32} (F : cc_ok h) (H : cd_W X m_Not_has 0 0 0 [some (.ref 71), some (.int p1), some (.int 34)] [] h (fun r1 h2 => ∃ x3 : Int32, r1 = some (.int x3) ∧ ((cc_ok h2) ∧ ((((x3 = 0) → (cd_W X m_Not_has 0 0 0 [some (.ref 71), some (.int p1), some (.int 91)] [] h2 (fun r6 h7 => ∃ x8 : Int32, r6 = some (.int x8) ∧ ((cc_ok h7) ∧ ((((x8 = 0) → (cd_W X m_Not_has 0 0 0 [some (.ref 71), some (.int p1), some (.int 123)] [] h7 (fun r11 h12 => ∃ x13 : Int32, r11 = some (.int x13) ∧ ((cc_ok h12) ∧ ((((x13 = 0) → (cd_W X m_Not_endOfNumber 0 0 0 [some (.ref 71), some (.int p1), none, none] [] h12 (fun r16 h17 => ∃ x18 : Int32, r16 = some (.int x18) ∧ ((cc_ok h17) ∧ (Q (some (.int x18)) h17))))) ∧ ((¬ x13 = 0) → (cd_W X (m_Not_endOfParts d) 0 0 0 [some (.ref 71), some (.int p1), some (.int 125), some (.int (p2 + 1)), none, none, none] [] h12 (fun r20 h21 => ∃ x22 : Int32, r20 = some (.int x22) ∧ ((cc_ok h21) ∧ (Q (some (.int x22)) h21))))))))))) ∧ ((¬ x8 = 0) → (cd_W X (m_Not_endOfParts d) 0 0 0 [some (.ref 71), some (.int p1), some (.int 93), some (.int (p2 + 1)), none, none, none] [] h7 (fun r24 h25 => ∃ x26 : Int32, r24 = some (.int x26) ∧ ((cc_ok h25) ∧ (Q (some (.int x26)) h25))))))))))) ∧ ((¬ x3 = 0) → (cd_W X m_Not_endOfString 0 0 0 [some (.ref 71), some (.int p1), none] [] h2 (fun r28 h29 => ∃ x30 : Int32, r28 = some (.int x30) ∧ ((cc_ok h29) ∧ (Q (some (.int x30)) h29)))))))))) : cd_W X (m_Not_endOfValue d) kc ks 0 [some (.ref 71), some (.int p1), some (.int p2)] [] h Q := by
  refine cd_aload_n (i := 0) (v := .ref 71) d_Not_endOfValue_0 rfl rfl (cd_isr_ref _) ?_
  refine cd_iload_n (i := 1) d_Not_endOfValue_1 rfl rfl ?_
  refine cd_bipush (v := 34) d_Not_endOfValue_2 (by decide) ?_
  refine cd_callV (kc := kc) (ks := ks) (kc' := 0) (ks' := 0) (As := [.int p1, .int 34]) (S := []) d_Not_endOfValue_4 ca_Not_endOfValue_25 (cc_k71 F) rfl (Nat.le_of_ble_eq_true rfl) (Nat.le_of_ble_eq_true rfl) ?_
  refine cd_W.mono (fun r1 h2 H => ?_) H
  obtain ⟨x3, rfl, H⟩ := H
  obtain ⟨F4, H⟩ := H
  show cd_W X (m_Not_endOfValue d) kc ks 7 [some (.ref 71), some (.int p1), some (.int p2)] [.int x3] h2 Q
  refine cd_if_eq (tgt := 16) d_Not_endOfValue_7 (by decide) (fun t5 => ?_) (fun t5 => ?_)
  · replace H := H.1 t5
    refine cd_aload_n (i := 0) (v := .ref 71) d_Not_endOfValue_16 rfl rfl (cd_isr_ref _) ?_
    refine cd_iload_n (i := 1) d_Not_endOfValue_17 rfl rfl ?_
    refine cd_bipush (v := 91) d_Not_endOfValue_18 (by decide) ?_
    refine cd_callV (kc := kc) (ks := ks) (kc' := 0) (ks' := 0) (As := [.int p1, .int 91]) (S := []) d_Not_endOfValue_20 ca_Not_endOfValue_25 (cc_k71 F4) rfl (Nat.le_of_ble_eq_true rfl) (Nat.le_of_ble_eq_true rfl) ?_
    refine cd_W.mono (fun r6 h7 H => ?_) H
    obtain ⟨x8, rfl, H⟩ := H
    obtain ⟨F9, H⟩ := H
    show cd_W X (m_Not_endOfValue d) kc ks 23 [some (.ref 71), some (.int p1), some (.int p2)] [.int x8] h7 Q
    refine cd_if_eq (tgt := 37) d_Not_endOfValue_23 (by decide) (fun t10 => ?_) (fun t10 => ?_)
    · replace H := H.1 t10
      refine cd_aload_n (i := 0) (v := .ref 71) d_Not_endOfValue_37 rfl rfl (cd_isr_ref _) ?_
      refine cd_iload_n (i := 1) d_Not_endOfValue_38 rfl rfl ?_
      refine cd_bipush (v := 123) d_Not_endOfValue_39 (by decide) ?_
      refine cd_callV (kc := kc) (ks := ks) (kc' := 0) (ks' := 0) (As := [.int p1, .int 123]) (S := []) d_Not_endOfValue_41 ca_Not_endOfValue_25 (cc_k71 F9) rfl (Nat.le_of_ble_eq_true rfl) (Nat.le_of_ble_eq_true rfl) ?_
      refine cd_W.mono (fun r11 h12 H => ?_) H
      obtain ⟨x13, rfl, H⟩ := H
      obtain ⟨F14, H⟩ := H
      show cd_W X (m_Not_endOfValue d) kc ks 44 [some (.ref 71), some (.int p1), some (.int p2)] [.int x13] h12 Q
      refine cd_if_eq (tgt := 58) d_Not_endOfValue_44 (by decide) (fun t15 => ?_) (fun t15 => ?_)
      · replace H := H.1 t15
        refine cd_aload_n (i := 0) (v := .ref 71) d_Not_endOfValue_58 rfl rfl (cd_isr_ref _) ?_
        refine cd_iload_n (i := 1) d_Not_endOfValue_59 rfl rfl ?_
        refine cd_callV (kc := kc) (ks := ks) (kc' := 0) (ks' := 0) (As := [.int p1]) (S := []) d_Not_endOfValue_60 ca_Not_endOfValue_71 (cc_k71 F14) rfl (Nat.le_of_ble_eq_true rfl) (Nat.le_of_ble_eq_true rfl) ?_
        refine cd_W.mono (fun r16 h17 H => ?_) H
        obtain ⟨x18, rfl, H⟩ := H
        obtain ⟨F19, H⟩ := H
        show cd_W X (m_Not_endOfValue d) kc ks 63 [some (.ref 71), some (.int p1), some (.int p2)] [.int x18] h17 Q
        exact cd_iret d_Not_endOfValue_63 rfl rfl H
      · replace H := H.2 t15
        refine cd_aload_n (i := 0) (v := .ref 71) d_Not_endOfValue_47 rfl rfl (cd_isr_ref _) ?_
        refine cd_iload_n (i := 1) d_Not_endOfValue_48 rfl rfl ?_
        refine cd_bipush (v := 125) d_Not_endOfValue_49 (by decide) ?_
        refine cd_iload_n (i := 2) d_Not_endOfValue_51 rfl rfl ?_
        refine cd_iconst (v := 1) d_Not_endOfValue_52 (by decide) ?_
        refine cd_iadd d_Not_endOfValue_53 ?_
        refine cd_callV (kc := kc) (ks := ks) (kc' := 0) (ks' := 0) (As := [.int p1, .int 125, .int (p2 + 1)]) (S := []) d_Not_endOfValue_54 ca_Not_endOfValue_67 (cc_k71 F14) rfl (Nat.le_of_ble_eq_true rfl) (Nat.le_of_ble_eq_true rfl) ?_
        refine cd_W.mono (fun r20 h21 H => ?_) H
        obtain ⟨x22, rfl, H⟩ := H
        obtain ⟨F23, H⟩ := H
        show cd_W X (m_Not_endOfValue d) kc ks 57 [some (.ref 71), some (.int p1), some (.int p2)] [.int x22] h21 Q
        exact cd_iret d_Not_endOfValue_57 rfl rfl H
    · replace H := H.2 t10
      refine cd_aload_n (i := 0) (v := .ref 71) d_Not_endOfValue_26 rfl rfl (cd_isr_ref _) ?_
      refine cd_iload_n (i := 1) d_Not_endOfValue_27 rfl rfl ?_
      refine cd_bipush (v := 93) d_Not_endOfValue_28 (by decide) ?_
      refine cd_iload_n (i := 2) d_Not_endOfValue_30 rfl rfl ?_
      refine cd_iconst (v := 1) d_Not_endOfValue_31 (by decide) ?_
      refine cd_iadd d_Not_endOfValue_32 ?_
      refine cd_callV (kc := kc) (ks := ks) (kc' := 0) (ks' := 0) (As := [.int p1, .int 93, .int (p2 + 1)]) (S := []) d_Not_endOfValue_33 ca_Not_endOfValue_67 (cc_k71 F9) rfl (Nat.le_of_ble_eq_true rfl) (Nat.le_of_ble_eq_true rfl) ?_
      refine cd_W.mono (fun r24 h25 H => ?_) H
      obtain ⟨x26, rfl, H⟩ := H
      obtain ⟨F27, H⟩ := H
      show cd_W X (m_Not_endOfValue d) kc ks 36 [some (.ref 71), some (.int p1), some (.int p2)] [.int x26] h25 Q
      exact cd_iret d_Not_endOfValue_36 rfl rfl H
  · replace H := H.2 t5
    refine cd_aload_n (i := 0) (v := .ref 71) d_Not_endOfValue_10 rfl rfl (cd_isr_ref _) ?_
    refine cd_iload_n (i := 1) d_Not_endOfValue_11 rfl rfl ?_
    refine cd_callV (kc := kc) (ks := ks) (kc' := 0) (ks' := 0) (As := [.int p1]) (S := []) d_Not_endOfValue_12 ca_Not_endOfValue_32 (cc_k71 F4) rfl (Nat.le_of_ble_eq_true rfl) (Nat.le_of_ble_eq_true rfl) ?_
    refine cd_W.mono (fun r28 h29 H => ?_) H
    obtain ⟨x30, rfl, H⟩ := H
    obtain ⟨F31, H⟩ := H
    show cd_W X (m_Not_endOfValue d) kc ks 15 [some (.ref 71), some (.int p1), some (.int p2)] [.int x30] h29 Q
    exact cd_iret d_Not_endOfValue_15 rfl rfl H

theorem d_Not_endOfParts_0 : decode prog_9_method_17_code 0 = .ok (.iload_n 3, 1) := by decide +kernel
theorem d_Not_endOfParts_1 : decode prog_9_method_17_code 1 = .ok (.iconst 4, 1) := by decide +kernel
theorem d_Not_endOfParts_2 : decode prog_9_method_17_code 2 = .ok (.if_icmp .le 5, 3) := by decide +kernel
theorem d_Not_endOfParts_7 : decode prog_9_method_17_code 7 = .ok (.iload_n 1, 1) := by decide +kernel
theorem d_Not_endOfParts_8 : decode prog_9_method_17_code 8 = .ok (.iconst 1, 1) := by decide +kernel
theorem d_Not_endOfParts_9 : decode prog_9_method_17_code 9 = .ok (.iadd, 1) := by decide +kernel
theorem d_Not_endOfParts_10 : decode prog_9_method_17_code 10 = .ok (.istore 4, 2) := by decide +kernel
theorem d_Not_endOfParts_12 : decode prog_9_method_17_code 12 = .ok (.aload_n 0, 1) := by decide +kernel
theorem d_Not_endOfParts_13 : decode prog_9_method_17_code 13 = .ok (.iload 4, 2) := by decide +kernel
theorem d_Not_endOfParts_15 : decode prog_9_method_17_code 15 = .ok (.iload_n 2, 1) := by decide +kernel
theorem d_Not_endOfParts_16 : decode prog_9_method_17_code 16 = .ok (.invokevirtual 25, 3) := by decide +kernel
theorem ca_Not_endOfParts_25 {X : cd_E} {d : Nat} : cd_CV X (m_Not_endOfParts (d + 1)) m_Not_has 25 2 6 := ⟨⟨by decide, kw_2_45, kw_1_3, ⟨by decide, by decide, by decide +kernel⟩, (by show 1 + 1 ≤ 2 * (d + 1) + 5; omega), (by show 8 + (3 + 11) + (20) ≤ 200 * (d + 1) + 200; omega)⟩, ⟨_, rfl, rfl⟩, kw_2_44, kp_6, (Or.inl kw_2_42)⟩
theorem d_Not_endOfParts_19 : decode prog_9_method_17_code 19 = .ok (.ifCond .eq 8, 3) := by decide +kernel
theorem d_Not_endOfParts_27 : decode prog_9_method_17_code 27 = .ok (.iconst 0, 1) := by decide +kernel
theorem d_Not_endOfParts_28 : decode prog_9_method_17_code 28 = .ok (.istore 5, 2) := by decide +kernel
theorem d_Not_endOfParts_22 : decode prog_9_method_17_code 22 = .ok (.iload 4, 2) := by decide +kernel
theorem d_Not_endOfParts_24 : decode prog_9_method_17_code 24 = .ok (.iconst 1, 1) := by decide +kernel
theorem d_Not_endOfParts_25 : decode prog_9_method_17_code 25 = .ok (.iadd, 1) := by decide +kernel
theorem d_Not_endOfParts_26 : decode prog_9_method_17_code 26 = .ok (.ireturn, 1) := by decide +kernel
theorem d_Not_endOfParts_5 : decode prog_9_method_17_code 5 = .ok (.iconst (-1), 1) := by decide +kernel
theorem d_Not_endOfParts_6 : decode prog_9_method_17_code 6 = .ok (.ireturn, 1) := by decide +kernel
theorem g_Not_endOfParts {X : cd_E} {kc ks : Nat} {h : cd_H} {Q : Option Value → cd_H → Prop} {d : Nat} {p1 : Int32} {p2 : Int32} {p3 : Int32} (F : cc_ok h) (H : (((p3 ≤ 4) → (cd_W X m_Not_has 0 0 0 [some (.ref 71), some (.int (p1 + 1)), some (.int p2)] [] h (fun r2 h3 => ∃ x4 : Int32, r2 = some (.int x4) ∧ ((cc_ok h3) ∧ ((((x4 = 0) → (cd_W X (m_Not_endOfParts (d + 1)) kc ks 30 [some (.ref 71), none, some (.int p2), some (.int p3), some (.int (p1 + 1)), some (.int 0), none] [] h3 Q)) ∧ ((¬ x4 = 0) → (Q (some (.int ((p1 + 1) + 1))) h3)))))))) ∧ ((¬ p3 ≤ 4) → (Q (some (.int (-1))) h)))) : cd_W X (m_Not_endOfParts (d + 1)) kc ks 0 [some (.ref 71), some (.int p1), some (.int p2), some (.int p3), none, none, none] [] h Q := by
  refine cd_iload_n (i := 3) d_Not_endOfParts_0 rfl rfl ?_
  refine cd_iconst (v := 4) d_Not_endOfParts_1 (by decide) ?_
  refine cd_icmp_le (tgt := 7) d_Not_endOfParts_2 (by decide) (fun t1 => ?_) (fun t1 => ?_)
  · replace H := H.1 t1
    refine cd_iload_n (i := 1) d_Not_endOfParts_7 rfl rfl ?_
    refine cd_iconst (v := 1) d_Not_endOfParts_8 (by decide) ?_
    refine cd_iadd d_Not_endOfParts_9 ?_
    refine cd_istore (i := 4) d_Not_endOfParts_10 (by decide) ?_
    show cd_W X (m_Not_endOfParts (d + 1)) kc ks 12 [some (.ref 71), some (.int p1), some (.int p2), some (.int p3), some (.int (p1 + 1)), none, none] [] h Q
    refine cd_aload_n (i := 0) (v := .ref 71) d_Not_endOfParts_12 rfl rfl (cd_isr_ref _) ?_
    refine cd_iload (i := 4) d_Not_endOfParts_13 rfl ?_
    refine cd_iload_n (i := 2) d_Not_endOfParts_15 rfl rfl ?_
    refine cd_callV (kc := kc) (ks := ks) (kc' := 0) (ks' := 0) (As := [.int (p1 + 1), .int p2]) (S := []) d_Not_endOfParts_16 ca_Not_endOfParts_25 (cc_k71 F) rfl (Nat.le_of_ble_eq_true rfl) (Nat.le_of_ble_eq_true rfl) ?_
    refine cd_W.mono (fun r2 h3 H => ?_) H
    obtain ⟨x4, rfl, H⟩ := H
    obtain ⟨F5, H⟩ := H
    show cd_W X (m_Not_endOfParts (d + 1)) kc ks 19 [some (.ref 71), some (.int p1), some (.int p2), some (.int p3), some (.int (p1 + 1)), none, none] [.int x4] h3 Q
    refine cd_if_eq (tgt := 27) d_Not_endOfParts_19 (by decide) (fun t6 => ?_) (fun t6 => ?_)
    · replace H := H.1 t6
      refine cd_iconst (v := 0) d_Not_endOfParts_27 (by decide) ?_
      refine cd_istore (i := 5) d_Not_endOfParts_28 (by decide) ?_
      show cd_W X (m_Not_endOfParts (d + 1)) kc ks 30 [some (.ref 71), some (.int p1), some (.int p2), some (.int p3), some (.int (p1 + 1)), some (.int 0), none] [] h3 Q
      refine cd_W.drop (i := 1) ?_
      exact H
    · replace H := H.2 t6
      refine cd_iload (i := 4) d_Not_endOfParts_22 rfl ?_
      refine cd_iconst (v := 1) d_Not_endOfParts_24 (by decide) ?_
      refine cd_iadd d_Not_endOfParts_25 ?_
      exact cd_iret d_Not_endOfParts_26 rfl rfl H
  · replace H := H.2 t1
    refine cd_iconst (v := (-1)) d_Not_endOfParts_5 (by decide) ?_
    exact cd_iret d_Not_endOfParts_6 rfl rfl H

theorem d_Not_endOfParts_30 : decode prog_9_method_17_code 30 = .ok (.iload 5, 2) := by decide +kernel
theorem d_Not_endOfParts_32 : decode prog_9_method_17_code 32 = .ok (.bipush 96, 2) := by decide +kernel
theorem d_Not_endOfParts_34 : decode prog_9_method_17_code 34 = .ok (.if_icmp .ge 82, 3) := by decide +kernel
theorem d_Not_endOfParts_116 : decode prog_9_method_17_code 116 = .ok (.iconst (-1), 1) := by decide +kernel
theorem d_Not_endOfParts_117 : decode prog_9_method_17_code 117 = .ok (.ireturn, 1) := by decide +kernel
theorem d_Not_endOfParts_37 : decode prog_9_method_17_code 37 = .ok (.iload_n 2, 1) := by decide +kernel
theorem d_Not_endOfParts_38 : decode prog_9_method_17_code 38 = .ok (.bipush 125, 2) := by decide +kernel
theorem d_Not_endOfParts_40 : decode prog_9_method_17_code 40 = .ok (.if_icmp .ne 30, 3) := by decide +kernel
theorem d_Not_endOfParts_70 : decode prog_9_method_17_code 70 = .ok (.aload_n 0, 1) := by decide +kernel
theorem d_Not_endOfParts_71 : decode prog_9_method_17_code 71 = .ok (.iload 4, 2) := by decide +kernel
theorem d_Not_endOfParts_73 : decode prog_9_method_17_code 73 = .ok (.iload_n 3, 1) := by decide +kernel
theorem d_Not_endOfParts_74 : decode prog_9_method_17_code 74 = .ok (.invokevirtual 29, 3) := by decide +kernel
theorem ca_Not_endOfParts_29 {X : cd_E} {d : Nat} : cd_CV X (m_Not_endOfParts (d + 1)) (m_Not_endOfValue d) 29 2 6 := ⟨⟨by decide, kw_2_49, kw_1_3, ⟨by decide, by decide, by decide +kernel⟩, (by show 2 * d + 6 + 1 ≤ 2 * (d + 1) + 5; omega), (by show 8 + (3 + 11) + (200 * d + 300) ≤ 200 * (d + 1) + 200; omega)⟩, ⟨_, rfl, rfl⟩, kw_2_48, kp_7, (Or.inl kw_2_46)⟩
theorem d_Not_endOfParts_77 : decode prog_9_method_17_code 77 = .ok (.istore 4, 2) := by decide +kernel
theorem d_Not_endOfParts_79 : decode prog_9_method_17_code 79 = .ok (.aload_n 0, 1) := by decide +kernel
theorem d_Not_endOfParts_80 : decode prog_9_method_17_code 80 = .ok (.iload 4, 2) := by decide +kernel
theorem d_Not_endOfParts_82 : decode prog_9_method_17_code 82 = .ok (.iload_n 2, 1) := by decide +kernel
theorem d_Not_endOfParts_83 : decode prog_9_method_17_code 83 = .ok (.invokevirtual 25, 3) := by decide +kernel
theorem d_Not_endOfParts_86 : decode prog_9_method_17_code 86 = .ok (.ifCond .eq 8, 3) := by decide +kernel
theorem d_Not_endOfParts_94 : decode prog_9_method_17_code 94 = .ok (.aload_n 0, 1) := by decide +kernel
theorem d_Not_endOfParts_95 : decode prog_9_method_17_code 95 = .ok (.iload 4, 2) := by decide +kernel
theorem d_Not_endOfParts_97 : decode prog_9_method_17_code 97 = .ok (.bipush 44, 2) := by decide +kernel
theorem d_Not_endOfParts_99 : decode prog_9_method_17_code 99 = .ok (.invokevirtual 25, 3) := by decide +kernel
theorem d_Not_endOfParts_102 : decode prog_9_method_17_code 102 = .ok (.ifCond .ne 5, 3) := by decide +kernel
theorem d_Not_endOfParts_107 : decode prog_9_method_17_code 107 = .ok (.iinc 4 1, 3) := by decide +kernel
theorem d_Not_endOfParts_110 : decode prog_9_method_17_code 110 = .ok (.iinc 5 1, 3) := by decide +kernel
theorem d_Not_endOfParts_113 : decode prog_9_method_17_code 113 = .ok (.goto (-83), 3) := by decide +kernel
theorem d_Not_endOfParts_105 : decode prog_9_method_17_code 105 = .ok (.iconst (-1), 1) := by decide +kernel
theorem d_Not_endOfParts_106 : decode prog_9_method_17_code 106 = .ok (.ireturn, 1) := by decide +kernel
theorem d_Not_endOfParts_89 : decode prog_9_method_17_code 89 = .ok (.iload 4, 2) := by decide +kernel
theorem d_Not_endOfParts_91 : decode prog_9_method_17_code 91 = .ok (.iconst 1, 1) := by decide +kernel
theorem d_Not_endOfParts_92 : decode prog_9_method_17_code 92 = .ok (.iadd, 1) := by decide +kernel
theorem d_Not_endOfParts_93 : decode prog_9_method_17_code 93 = .ok (.ireturn, 1) := by decide +kernel
theorem d_Not_endOfParts_43 : decode prog_9_method_17_code 43 = .ok (.aload_n 0, 1) := by decide +kernel
theorem d_Not_endOfParts_44 : decode prog_9_method_17_code 44 = .ok (.iload 4, 2) := by decide +kernel
theorem d_Not_endOfParts_46 : decode prog_9_method_17_code 46 = .ok (.invokevirtual 32, 3) := by decide +kernel
theorem ca_Not_endOfParts_32 {X : cd_E} {d : Nat} : cd_CV X (m_Not_endOfParts (d + 1)) m_Not_endOfString 32 1 6 := ⟨⟨by decide, kw_2_53, kw_1_3, ⟨by decide, by decide, by decide +kernel⟩, (by show 2 + 1 ≤ 2 * (d + 1) + 5; omega), (by show 8 + (3 + 11) + (42) ≤ 200 * (d + 1) + 200; omega)⟩, ⟨_, rfl, rfl⟩, kw_2_52, kp_8, (Or.inl kw_2_50)⟩
theorem d_Not_endOfParts_49 : decode prog_9_method_17_code 49 = .ok (.istore 6, 2) := by decide +kernel
theorem d_Not_endOfParts_51 : decode prog_9_method_17_code 51 = .ok (.aload_n 0, 1) := by decide +kernel
theorem d_Not_endOfParts_52 : decode prog_9_method_17_code 52 = .ok (.iload 6, 2) := by decide +kernel
theorem d_Not_endOfParts_54 : decode prog_9_method_17_code 54 = .ok (.bipush 58, 2) := by decide +kernel
theorem d_Not_endOfParts_56 : decode prog_9_method_17_code 56 = .ok (.invokevirtual 25, 3) := by decide +kernel
theorem d_Not_endOfParts_59 : decode prog_9_method_17_code 59 = .ok (.ifCond .ne 5, 3) := by decide +kernel
theorem d_Not_endOfParts_64 : decode prog_9_method_17_code 64 = .ok (.iload 6, 2) := by decide +kernel
theorem d_Not_endOfParts_66 : decode prog_9_method_17_code 66 = .ok (.iconst 1, 1) := by decide +kernel
theorem d_Not_endOfParts_67 : decode prog_9_method_17_code 67 = .ok (.iadd, 1) := by decide +kernel
theorem d_Not_endOfParts_68 : decode prog_9_method_17_code 68 = .ok (.istore 4, 2) := by decide +kernel
theorem d_Not_endOfParts_62 : decode prog_9_method_17_code 62 = .ok (.iconst (-1), 1) := by decide +kernel
theorem d_Not_endOfParts_63 : decode prog_9_method_17_code 63 = .ok (.ireturn, 1) := by decide +kernel
theorem g_Not_endOfParts_30 {X : cd_E} {kc ks : Nat} {h : cd_H} {Q : Option Value → cd_H → Prop} {d : Nat} {v2 : Int32} {v3 : Int32} {v4 : Int32} {v5 : Int32} (F : cc_ok h) (H : (((96 ≤ v5) → (Q (some (.int (-1))) h)) ∧ ((¬ 96 ≤ v5) → ((((¬ v2 = 125) → (cd_W X (m_Not_endOfValue d) 0 0 0 [some (.ref 71), some (.int v4), some (.int v3)] [] h (fun r3 h4 => ∃ x5 : Int32, r3 = some (.int x5) ∧ ((cc_ok h4) ∧ (cd_W X m_Not_has 0 0 0 [some (.ref 71), some (.int x5), some (.int v2)] [] h4 (fun r7 h8 => ∃ x9 : Int32, r7 = some (.int x9) ∧ ((cc_ok h8) ∧ ((((x9 = 0) → (cd_W X m_Not_has 0 0 0 [some (.ref 71), some (.int x5), some (.int 44)] [] h8 (fun r12 h13 => ∃ x14 : Int32, r12 = some (.int x14) ∧ ((cc_ok h13) ∧ ((((¬ x14 = 0) → (cd_W X (m_Not_endOfParts (d + 1)) kc ks 30 [some (.ref 71), none, some (.int v2), some (.int v3), some (.int (x5 + 1)), some (.int (v5 + 1)), none] [] h13 Q)) ∧ ((x14 = 0) → (Q (some (.int (-1))) h13)))))))) ∧ ((¬ x9 = 0) → (Q (some (.int (x5 + 1))) h8))))))))))) ∧ ((v2 = 125) → (cd_W X m_Not_endOfString 0 0 0 [some (.ref 71), some (.int v4), none] [] h (fun r17 h18 => ∃ x19 : Int32, r17 = some (.int x19) ∧ ((cc_ok h18) ∧ (cd_W X m_Not_has 0 0 0 [some (.ref 71), some (.int x19), some (.int 58)] [] h18 (fun r21 h22 => ∃ x23 : Int32, r21 = some (.int x23) ∧ ((cc_ok h22) ∧ ((((¬ x23 = 0) → (cd_W X (m_Not_endOfValue d) 0 0 0 [some (.ref 71), some (.int (x19 + 1)), some (.int v3)] [] h22 (fun r26 h27 => ∃ x28 : Int32, r26 = some (.int x28) ∧ ((cc_ok h27) ∧ (cd_W X m_Not_has 0 0 0 [some (.ref 71), some (.int x28), some (.int v2)] [] h27 (fun r30 h31 => ∃ x32 : Int32, r30 = some (.int x32) ∧ ((cc_ok h31) ∧ ((((x32 = 0) → (cd_W X m_Not_has 0 0 0 [some (.ref 71), some (.int x28), some (.int 44)] [] h31 (fun r35 h36 => ∃ x37 : Int32, r35 = some (.int x37) ∧ ((cc_ok h36) ∧ ((((¬ x37 = 0) → (cd_W X (m_Not_endOfParts (d + 1)) kc ks 30 [some (.ref 71), none, some (.int v2), some (.int v3), some (.int (x28 + 1)), some (.int (v5 + 1)), none] [] h36 Q)) ∧ ((x37 = 0) → (Q (some (.int (-1))) h36)))))))) ∧ ((¬ x32 = 0) → (Q (some (.int (x28 + 1))) h31))))))))))) ∧ ((x23 = 0) → (Q (some (.int (-1))) h22)))))))))))))))) : cd_W X (m_Not_endOfParts (d + 1)) kc ks 30 [some (.ref 71), none, some (.int v2), some (.int v3), some (.int v4), some (.int v5), none] [] h Q := by
  refine cd_iload (i := 5) d_Not_endOfParts_30 rfl ?_
  refine cd_bipush (v := 96) d_Not_endOfParts_32 (by decide) ?_
  refine cd_icmp_ge (tgt := 116) d_Not_endOfParts_34 (by decide) (fun t1 => ?_) (fun t1 => ?_)
  · replace H := H.1 t1
    refine cd_iconst (v := (-1)) d_Not_endOfParts_116 (by decide) ?_
    exact cd_iret d_Not_endOfParts_117 rfl rfl H
  · replace H := H.2 t1
    refine cd_iload_n (i := 2) d_Not_endOfParts_37 rfl rfl ?_
    refine cd_bipush (v := 125) d_Not_endOfParts_38 (by decide) ?_
    refine cd_icmp_ne (tgt := 70) d_Not_endOfParts_40 (by decide) (fun t2 => ?_) (fun t2 => ?_)
    · replace H := H.1 t2
      refine cd_aload_n (i := 0) (v := .ref 71) d_Not_endOfParts_70 rfl rfl (cd_isr_ref _) ?_
      refine cd_iload (i := 4) d_Not_endOfParts_71 rfl ?_
      refine cd_iload_n (i := 3) d_Not_endOfParts_73 rfl rfl ?_
      refine cd_callV (kc := kc) (ks := ks) (kc' := 0) (ks' := 0) (As := [.int v4, .int v3]) (S := []) d_Not_endOfParts_74 ca_Not_endOfParts_29 (cc_k71 F) rfl (Nat.le_of_ble_eq_true rfl) (Nat.le_of_ble_eq_true rfl) ?_
      refine cd_W.mono (fun r3 h4 H => ?_) H
      obtain ⟨x5, rfl, H⟩ := H
      obtain ⟨F6, H⟩ := H
      show cd_W X (m_Not_endOfParts (d + 1)) kc ks 77 [some (.ref 71), none, some (.int v2), some (.int v3), some (.int v4), some (.int v5), none] [.int x5] h4 Q
      refine cd_istore (i := 4) d_Not_endOfParts_77 (by decide) ?_
      show cd_W X (m_Not_endOfParts (d + 1)) kc ks 79 [some (.ref 71), none, some (.int v2), some (.int v3), some (.int x5), some (.int v5), none] [] h4 Q
      refine cd_aload_n (i := 0) (v := .ref 71) d_Not_endOfParts_79 rfl rfl (cd_isr_ref _) ?_
      refine cd_iload (i := 4) d_Not_endOfParts_80 rfl ?_
      refine cd_iload_n (i := 2) d_Not_endOfParts_82 rfl rfl ?_
      refine cd_callV (kc := kc) (ks := ks) (kc' := 0) (ks' := 0) (As := [.int x5, .int v2]) (S := []) d_Not_endOfParts_83 ca_Not_endOfParts_25 (cc_k71 F6) rfl (Nat.le_of_ble_eq_true rfl) (Nat.le_of_ble_eq_true rfl) ?_
      refine cd_W.mono (fun r7 h8 H => ?_) H
      obtain ⟨x9, rfl, H⟩ := H
      obtain ⟨F10, H⟩ := H
      show cd_W X (m_Not_endOfParts (d + 1)) kc ks 86 [some (.ref 71), none, some (.int v2), some (.int v3), some (.int x5), some (.int v5), none] [.int x9] h8 Q
      refine cd_if_eq (tgt := 94) d_Not_endOfParts_86 (by decide) (fun t11 => ?_) (fun t11 => ?_)
      · replace H := H.1 t11
        refine cd_aload_n (i := 0) (v := .ref 71) d_Not_endOfParts_94 rfl rfl (cd_isr_ref _) ?_
        refine cd_iload (i := 4) d_Not_endOfParts_95 rfl ?_
        refine cd_bipush (v := 44) d_Not_endOfParts_97 (by decide) ?_
        refine cd_callV (kc := kc) (ks := ks) (kc' := 0) (ks' := 0) (As := [.int x5, .int 44]) (S := []) d_Not_endOfParts_99 ca_Not_endOfParts_25 (cc_k71 F10) rfl (Nat.le_of_ble_eq_true rfl) (Nat.le_of_ble_eq_true rfl) ?_
        refine cd_W.mono (fun r12 h13 H => ?_) H
        obtain ⟨x14, rfl, H⟩ := H
        obtain ⟨F15, H⟩ := H
        show cd_W X (m_Not_endOfParts (d + 1)) kc ks 102 [some (.ref 71), none, some (.int v2), some (.int v3), some (.int x5), some (.int v5), none] [.int x14] h13 Q
        refine cd_if_ne (tgt := 107) d_Not_endOfParts_102 (by decide) (fun t16 => ?_) (fun t16 => ?_)
        · replace H := H.1 t16
          refine cd_iinc (i := 4) (v := (x5 + 1)) d_Not_endOfParts_107 rfl (cd_inc1 _) (by decide) ?_
          show cd_W X (m_Not_endOfParts (d + 1)) kc ks 110 [some (.ref 71), none, some (.int v2), some (.int v3), some (.int (x5 + 1)), some (.int v5), none] [] h13 Q
          refine cd_iinc (i := 5) (v := (v5 + 1)) d_Not_endOfParts_110 rfl (cd_inc1 _) (by decide) ?_
          show cd_W X (m_Not_endOfParts (d + 1)) kc ks 113 [some (.ref 71), none, some (.int v2), some (.int v3), some (.int (x5 + 1)), some (.int (v5 + 1)), none] [] h13 Q
          refine cd_goto (tgt := 30) d_Not_endOfParts_113 (by decide) ?_
          exact H
        · replace H := H.2 t16
          refine cd_iconst (v := (-1)) d_Not_endOfParts_105 (by decide) ?_
          exact cd_iret d_Not_endOfParts_106 rfl rfl H
      · replace H := H.2 t11
        refine cd_iload (i := 4) d_Not_endOfParts_89 rfl ?_
        refine cd_iconst (v := 1) d_Not_endOfParts_91 (by decide) ?_
        refine cd_iadd d_Not_endOfParts_92 ?_
        exact cd_iret d_Not_endOfParts_93 rfl rfl H
    · replace H := H.2 t2
      refine cd_aload_n (i := 0) (v := .ref 71) d_Not_endOfParts_43 rfl rfl (cd_isr_ref _) ?_
      refine cd_iload (i := 4) d_Not_endOfParts_44 rfl ?_
      refine cd_callV (kc := kc) (ks := ks) (kc' := 0) (ks' := 0) (As := [.int v4]) (S := []) d_Not_endOfParts_46 ca_Not_endOfParts_32 (cc_k71 F) rfl (Nat.le_of_ble_eq_true rfl) (Nat.le_of_ble_eq_true rfl) ?_
      refine cd_W.mono (fun r17 h18 H => ?_) H
      obtain ⟨x19, rfl, H⟩ := H
      obtain ⟨F20, H⟩ := H
      show cd_W X (m_Not_endOfParts (d + 1)) kc ks 49 [some (.ref 71), none, some (.int v2), some (.int v3), some (.int v4), some (.int v5), none] [.int x19] h18 Q
      refine cd_istore (i := 6) d_Not_endOfParts_49 (by decide) ?_
      show cd_W X (m_Not_endOfParts (d + 1)) kc ks 51 [some (.ref 71), none, some (.int v2), some (.int v3), some (.int v4), some (.int v5), some (.int x19)] [] h18 Q
      refine cd_aload_n (i := 0) (v := .ref 71) d_Not_endOfParts_51 rfl rfl (cd_isr_ref _) ?_
      refine cd_iload (i := 6) d_Not_endOfParts_52 rfl ?_
      refine cd_bipush (v := 58) d_Not_endOfParts_54 (by decide) ?_
      refine cd_callV (kc := kc) (ks := ks) (kc' := 0) (ks' := 0) (As := [.int x19, .int 58]) (S := []) d_Not_endOfParts_56 ca_Not_endOfParts_25 (cc_k71 F20) rfl (Nat.le_of_ble_eq_true rfl) (Nat.le_of_ble_eq_true rfl) ?_
      refine cd_W.mono (fun r21 h22 H => ?_) H
      obtain ⟨x23, rfl, H⟩ := H
      obtain ⟨F24, H⟩ := H
      show cd_W X (m_Not_endOfParts (d + 1)) kc ks 59 [some (.ref 71), none, some (.int v2), some (.int v3), some (.int v4), some (.int v5), some (.int x19)] [.int x23] h22 Q
      refine cd_if_ne (tgt := 64) d_Not_endOfParts_59 (by decide) (fun t25 => ?_) (fun t25 => ?_)
      · replace H := H.1 t25
        refine cd_iload (i := 6) d_Not_endOfParts_64 rfl ?_
        refine cd_iconst (v := 1) d_Not_endOfParts_66 (by decide) ?_
        refine cd_iadd d_Not_endOfParts_67 ?_
        refine cd_istore (i := 4) d_Not_endOfParts_68 (by decide) ?_
        show cd_W X (m_Not_endOfParts (d + 1)) kc ks 70 [some (.ref 71), none, some (.int v2), some (.int v3), some (.int (x19 + 1)), some (.int v5), some (.int x19)] [] h22 Q
        refine cd_aload_n (i := 0) (v := .ref 71) d_Not_endOfParts_70 rfl rfl (cd_isr_ref _) ?_
        refine cd_iload (i := 4) d_Not_endOfParts_71 rfl ?_
        refine cd_iload_n (i := 3) d_Not_endOfParts_73 rfl rfl ?_
        refine cd_callV (kc := kc) (ks := ks) (kc' := 0) (ks' := 0) (As := [.int (x19 + 1), .int v3]) (S := []) d_Not_endOfParts_74 ca_Not_endOfParts_29 (cc_k71 F24) rfl (Nat.le_of_ble_eq_true rfl) (Nat.le_of_ble_eq_true rfl) ?_
        refine cd_W.mono (fun r26 h27 H => ?_) H
        obtain ⟨x28, rfl, H⟩ := H
        obtain ⟨F29, H⟩ := H
        show cd_W X (m_Not_endOfParts (d + 1)) kc ks 77 [some (.ref 71), none, some (.int v2), some (.int v3), some (.int (x19 + 1)), some (.int v5), some (.int x19)] [.int x28] h27 Q
        refine cd_istore (i := 4) d_Not_endOfParts_77 (by decide) ?_
        show cd_W X (m_Not_endOfParts (d + 1)) kc ks 79 [some (.ref 71), none, some (.int v2), some (.int v3), some (.int x28), some (.int v5), some (.int x19)] [] h27 Q
        refine cd_aload_n (i := 0) (v := .ref 71) d_Not_endOfParts_79 rfl rfl (cd_isr_ref _) ?_
        refine cd_iload (i := 4) d_Not_endOfParts_80 rfl ?_
        refine cd_iload_n (i := 2) d_Not_endOfParts_82 rfl rfl ?_
        refine cd_callV (kc := kc) (ks := ks) (kc' := 0) (ks' := 0) (As := [.int x28, .int v2]) (S := []) d_Not_endOfParts_83 ca_Not_endOfParts_25 (cc_k71 F29) rfl (Nat.le_of_ble_eq_true rfl) (Nat.le_of_ble_eq_true rfl) ?_
        refine cd_W.mono (fun r30 h31 H => ?_) H
        obtain ⟨x32, rfl, H⟩ := H
        obtain ⟨F33, H⟩ := H
        show cd_W X (m_Not_endOfParts (d + 1)) kc ks 86 [some (.ref 71), none, some (.int v2), some (.int v3), some (.int x28), some (.int v5), some (.int x19)] [.int x32] h31 Q
        refine cd_if_eq (tgt := 94) d_Not_endOfParts_86 (by decide) (fun t34 => ?_) (fun t34 => ?_)
        · replace H := H.1 t34
          refine cd_aload_n (i := 0) (v := .ref 71) d_Not_endOfParts_94 rfl rfl (cd_isr_ref _) ?_
          refine cd_iload (i := 4) d_Not_endOfParts_95 rfl ?_
          refine cd_bipush (v := 44) d_Not_endOfParts_97 (by decide) ?_
          refine cd_callV (kc := kc) (ks := ks) (kc' := 0) (ks' := 0) (As := [.int x28, .int 44]) (S := []) d_Not_endOfParts_99 ca_Not_endOfParts_25 (cc_k71 F33) rfl (Nat.le_of_ble_eq_true rfl) (Nat.le_of_ble_eq_true rfl) ?_
          refine cd_W.mono (fun r35 h36 H => ?_) H
          obtain ⟨x37, rfl, H⟩ := H
          obtain ⟨F38, H⟩ := H
          show cd_W X (m_Not_endOfParts (d + 1)) kc ks 102 [some (.ref 71), none, some (.int v2), some (.int v3), some (.int x28), some (.int v5), some (.int x19)] [.int x37] h36 Q
          refine cd_if_ne (tgt := 107) d_Not_endOfParts_102 (by decide) (fun t39 => ?_) (fun t39 => ?_)
          · replace H := H.1 t39
            refine cd_iinc (i := 4) (v := (x28 + 1)) d_Not_endOfParts_107 rfl (cd_inc1 _) (by decide) ?_
            show cd_W X (m_Not_endOfParts (d + 1)) kc ks 110 [some (.ref 71), none, some (.int v2), some (.int v3), some (.int (x28 + 1)), some (.int v5), some (.int x19)] [] h36 Q
            refine cd_iinc (i := 5) (v := (v5 + 1)) d_Not_endOfParts_110 rfl (cd_inc1 _) (by decide) ?_
            show cd_W X (m_Not_endOfParts (d + 1)) kc ks 113 [some (.ref 71), none, some (.int v2), some (.int v3), some (.int (x28 + 1)), some (.int (v5 + 1)), some (.int x19)] [] h36 Q
            refine cd_goto (tgt := 30) d_Not_endOfParts_113 (by decide) ?_
            refine cd_W.drop (i := 6) ?_
            exact H
          · replace H := H.2 t39
            refine cd_iconst (v := (-1)) d_Not_endOfParts_105 (by decide) ?_
            exact cd_iret d_Not_endOfParts_106 rfl rfl H
        · replace H := H.2 t34
          refine cd_iload (i := 4) d_Not_endOfParts_89 rfl ?_
          refine cd_iconst (v := 1) d_Not_endOfParts_91 (by decide) ?_
          refine cd_iadd d_Not_endOfParts_92 ?_
          exact cd_iret d_Not_endOfParts_93 rfl rfl H
      · replace H := H.2 t25
        refine cd_iconst (v := (-1)) d_Not_endOfParts_62 (by decide) ?_
        exact cd_iret d_Not_endOfParts_63 rfl rfl H

theorem d_Not_endOfString_0 : decode prog_9_method_18_code 0 = .ok (.aload_n 0, 1) := by decide +kernel
theorem d_Not_endOfString_1 : decode prog_9_method_18_code 1 = .ok (.iload_n 1, 1) := by decide +kernel
theorem d_Not_endOfString_2 : decode prog_9_method_18_code 2 = .ok (.bipush 34, 2) := by decide +kernel
theorem d_Not_endOfString_4 : decode prog_9_method_18_code 4 = .ok (.invokevirtual 25, 3) := by decide +kernel
theorem ca_Not_endOfString_25 {X : cd_E} : cd_CV X m_Not_endOfString m_Not_has 25 2 6 := ⟨⟨by decide, kw_2_45, kw_1_3, ⟨by decide, by decide, by decide +kernel⟩, by decide, by decide⟩, ⟨_, rfl, rfl⟩, kw_2_44, kp_6, (Or.inl kw_2_42)⟩
theorem d_Not_endOfString_7 : decode prog_9_method_18_code 7 = .ok (.ifCond .ne 5, 3) := by decide +kernel
theorem d_Not_endOfString_12 : decode prog_9_method_18_code 12 = .ok (.iload_n 1, 1) := by decide +kernel
theorem d_Not_endOfString_13 : decode prog_9_method_18_code 13 = .ok (.iconst 1, 1) := by decide +kernel
theorem d_Not_endOfString_14 : decode prog_9_method_18_code 14 = .ok (.iadd, 1) := by decide +kernel
theorem d_Not_endOfString_15 : decode prog_9_method_18_code 15 = .ok (.istore_n 2, 1) := by decide +kernel
theorem d_Not_endOfString_10 : decode prog_9_method_18_code 10 = .ok (.iconst (-1), 1) := by decide +kernel
theorem d_Not_endOfString_11 : decode prog_9_method_18_code 11 = .ok (.ireturn, 1) := by decide +kernel
theorem g_Not_endOfString {X : cd_E} {kc ks : Nat} {h : cd_H} {Q : Option Value → cd_H → Prop} {p1 : Int32} (F : cc_ok h) (H : cd_W X m_Not_has 0 0 0 [some (.ref 71), some (.int p1), some (.int 34)] [] h (fun r1 h2 => ∃ x3 : Int32, r1 = some (.int x3) ∧ ((cc_ok h2) ∧ ((((¬ x3 = 0) → (cd_W X m_Not_endOfString kc ks 16 [some (.ref 71), none, some (.int (p1 + 1))] [] h2 Q)) ∧ ((x3 = 0) → (Q (some (.int (-1))) h2))))))) : cd_W X m_Not_endOfString kc ks 0 [some (.ref 71), some (.int p1), none] [] h Q := by
  refine cd_aload_n (i := 0) (v := .ref 71) d_Not_endOfString_0 rfl rfl (cd_isr_ref _) ?_
  refine cd_iload_n (i := 1) d_Not_endOfString_1 rfl rfl ?_
  refine cd_bipush (v := 34) d_Not_endOfString_2 (by decide) ?_
  refine cd_callV (kc := kc) (ks := ks) (kc' := 0) (ks' := 0) (As := [.int p1, .int 34]) (S := []) d_Not_endOfString_4 ca_Not_endOfString_25 (cc_k71 F) rfl (Nat.le_of_ble_eq_true rfl) (Nat.le_of_ble_eq_true rfl) ?_
  refine cd_W.mono (fun r1 h2 H => ?_) H
  obtain ⟨x3, rfl, H⟩ := H
  obtain ⟨F4, H⟩ := H
  show cd_W X m_Not_endOfString kc ks 7 [some (.ref 71), some (.int p1), none] [.int x3] h2 Q
  refine cd_if_ne (tgt := 12) d_Not_endOfString_7 (by decide) (fun t5 => ?_) (fun t5 => ?_)
  · replace H := H.1 t5
    refine cd_iload_n (i := 1) d_Not_endOfString_12 rfl rfl ?_
    refine cd_iconst (v := 1) d_Not_endOfString_13 (by decide) ?_
    refine cd_iadd d_Not_endOfString_14 ?_
    refine cd_istore_n (i := 2) d_Not_endOfString_15 rfl (by decide) ?_
    show cd_W X m_Not_endOfString kc ks 16 [some (.ref 71), some (.int p1), some (.int (p1 + 1))] [] h2 Q
    refine cd_W.drop (i := 1) ?_
    exact H
  · replace H := H.2 t5
    refine cd_iconst (v := (-1)) d_Not_endOfString_10 (by decide) ?_
    exact cd_iret d_Not_endOfString_11 rfl rfl H

theorem d_Not_endOfString_16 : decode prog_9_method_18_code 16 = .ok (.iload_n 2, 1) := by decide +kernel
theorem d_Not_endOfString_17 : decode prog_9_method_18_code 17 = .ok (.aload_n 0, 1) := by decide +kernel
theorem d_Not_endOfString_18 : decode prog_9_method_18_code 18 = .ok (.getfield 15, 3) := by decide +kernel
theorem d_Not_endOfString_21 : decode prog_9_method_18_code 21 = .ok (.if_icmp .ge 35, 3) := by decide +kernel
theorem d_Not_endOfString_56 : decode prog_9_method_18_code 56 = .ok (.iconst (-1), 1) := by decide +kernel
theorem d_Not_endOfString_57 : decode prog_9_method_18_code 57 = .ok (.ireturn, 1) := by decide +kernel
theorem d_Not_endOfString_24 : decode prog_9_method_18_code 24 = .ok (.aload_n 0, 1) := by decide +kernel
theorem d_Not_endOfString_25 : decode prog_9_method_18_code 25 = .ok (.getfield 11, 3) := by decide +kernel
theorem d_Not_endOfString_28 : decode prog_9_method_18_code 28 = .ok (.iload_n 2, 1) := by decide +kernel
theorem d_Not_endOfString_29 : decode prog_9_method_18_code 29 = .ok (.caload, 1) := by decide +kernel
theorem d_Not_endOfString_30 : decode prog_9_method_18_code 30 = .ok (.bipush 92, 2) := by decide +kernel
theorem d_Not_endOfString_32 : decode prog_9_method_18_code 32 = .ok (.if_icmp .eq 24, 3) := by decide +kernel
theorem d_Not_endOfString_35 : decode prog_9_method_18_code 35 = .ok (.aload_n 0, 1) := by decide +kernel
theorem d_Not_endOfString_36 : decode prog_9_method_18_code 36 = .ok (.getfield 11, 3) := by decide +kernel
theorem d_Not_endOfString_39 : decode prog_9_method_18_code 39 = .ok (.iload_n 2, 1) := by decide +kernel
theorem d_Not_endOfString_40 : decode prog_9_method_18_code 40 = .ok (.caload, 1) := by decide +kernel
theorem d_Not_endOfString_41 : decode prog_9_method_18_code 41 = .ok (.bipush 34, 2) := by decide +kernel
theorem d_Not_endOfString_43 : decode prog_9_method_18_code 43 = .ok (.if_icmp .ne 7, 3) := by decide +kernel
theorem d_Not_endOfString_50 : decode prog_9_method_18_code 50 = .ok (.iinc 2 1, 3) := by decide +kernel
theorem d_Not_endOfString_53 : decode prog_9_method_18_code 53 = .ok (.goto (-37), 3) := by decide +kernel
theorem d_Not_endOfString_46 : decode prog_9_method_18_code 46 = .ok (.iload_n 2, 1) := by decide +kernel
theorem d_Not_endOfString_47 : decode prog_9_method_18_code 47 = .ok (.iconst 1, 1) := by decide +kernel
theorem d_Not_endOfString_48 : decode prog_9_method_18_code 48 = .ok (.iadd, 1) := by decide +kernel
theorem d_Not_endOfString_49 : decode prog_9_method_18_code 49 = .ok (.ireturn, 1) := by decide +kernel
theorem g_Not_endOfString_16 {X : cd_E} {kc ks : Nat} {h : cd_H} {Q : Option Value → cd_H → Prop} {v2 : Int32} (F : cc_ok h) (H : ((((cd_i h 71 1) ≤ v2) → (Q (some (.int (-1))) h)) ∧ ((¬ (cd_i h 71 1) ≤ v2) → ((vp_in v2 96) ∧ (((((cd_i h 72 v2.toNatClampNeg) = 92) → (Q (some (.int (-1))) h)) ∧ ((¬ (cd_i h 72 v2.toNatClampNeg) = 92) → ((((¬ (cd_i h 72 v2.toNatClampNeg) = 34) → (cd_W X m_Not_endOfString kc ks 16 [some (.ref 71), none, some (.int (v2 + 1))] [] h Q)) ∧ (((cd_i h 72 v2.toNatClampNeg) = 34) → (Q (some (.int (v2 + 1))) h))))))))))) : cd_W X m_Not_endOfString kc ks 16 [some (.ref 71), none, some (.int v2)] [] h Q := by
  refine cd_iload_n (i := 2) d_Not_endOfString_16 rfl rfl ?_
  refine cd_aload_n (i := 0) (v := .ref 71) d_Not_endOfString_17 rfl rfl (cd_isr_ref _) ?_
  refine cd_get (v := .int (cd_i h 71 1)) d_Not_endOfString_18 fl_Not_15 (cc_k71 F) rfl ?_
  refine cd_icmp_ge (tgt := 56) d_Not_endOfString_21 (by decide) (fun t1 => ?_) (fun t1 => ?_)
  · replace H := H.1 t1
    refine cd_iconst (v := (-1)) d_Not_endOfString_56 (by decide) ?_
    exact cd_iret d_Not_endOfString_57 rfl rfl H
  · replace H := H.2 t1
    refine cd_aload_n (i := 0) (v := .ref 71) d_Not_endOfString_24 rfl rfl (cd_isr_ref _) ?_
    refine cd_get (v := .ref 72) d_Not_endOfString_25 fl_Not_11 (cc_k71 F) (congrArg va_rf (cc_r71_0 F)) ?_
    refine cd_iload_n (i := 2) d_Not_endOfString_28 rfl rfl ?_
    obtain ⟨c2, H⟩ := H
    refine cd_cald (j := v2) d_Not_endOfString_29 rfl (cc_k72 F) c2 ?_
    refine cd_bipush (v := 92) d_Not_endOfString_30 (by decide) ?_
    refine cd_icmp_eq (tgt := 56) d_Not_endOfString_32 (by decide) (fun t3 => ?_) (fun t3 => ?_)
    · replace H := H.1 t3
      refine cd_iconst (v := (-1)) d_Not_endOfString_56 (by decide) ?_
      exact cd_iret d_Not_endOfString_57 rfl rfl H
    · replace H := H.2 t3
      refine cd_aload_n (i := 0) (v := .ref 71) d_Not_endOfString_35 rfl rfl (cd_isr_ref _) ?_
      refine cd_get (v := .ref 72) d_Not_endOfString_36 fl_Not_11 (cc_k71 F) (congrArg va_rf (cc_r71_0 F)) ?_
      refine cd_iload_n (i := 2) d_Not_endOfString_39 rfl rfl ?_
      refine cd_cald (j := v2) d_Not_endOfString_40 rfl (cc_k72 F) c2 ?_
      refine cd_bipush (v := 34) d_Not_endOfString_41 (by decide) ?_
      refine cd_icmp_ne (tgt := 50) d_Not_endOfString_43 (by decide) (fun t4 => ?_) (fun t4 => ?_)
      · replace H := H.1 t4
        refine cd_iinc (i := 2) (v := (v2 + 1)) d_Not_endOfString_50 rfl (cd_inc1 _) (by decide) ?_
        show cd_W X m_Not_endOfString kc ks 53 [some (.ref 71), none, some (.int (v2 + 1))] [] h Q
        refine cd_goto (tgt := 16) d_Not_endOfString_53 (by decide) ?_
        exact H
      · replace H := H.2 t4
        refine cd_iload_n (i := 2) d_Not_endOfString_46 rfl rfl ?_
        refine cd_iconst (v := 1) d_Not_endOfString_47 (by decide) ?_
        refine cd_iadd d_Not_endOfString_48 ?_
        exact cd_iret d_Not_endOfString_49 rfl rfl H

theorem d_Not_endOfNumber_0 : decode prog_9_method_19_code 0 = .ok (.aload_n 0, 1) := by decide +kernel
theorem d_Not_endOfNumber_1 : decode prog_9_method_19_code 1 = .ok (.iload_n 1, 1) := by decide +kernel
theorem d_Not_endOfNumber_2 : decode prog_9_method_19_code 2 = .ok (.invokevirtual 40, 3) := by decide +kernel
theorem ca_Not_endOfNumber_40 {X : cd_E} : cd_CV X m_Not_endOfNumber m_Not_hasDigit 40 1 6 := ⟨⟨by decide, kw_2_65, kw_1_3, ⟨by decide, by decide, by decide +kernel⟩, by decide, by decide⟩, ⟨_, rfl, rfl⟩, kw_2_64, kp_11, (Or.inl kw_2_62)⟩
theorem d_Not_endOfNumber_5 : decode prog_9_method_19_code 5 = .ok (.ifCond .ne 5, 3) := by decide +kernel
theorem d_Not_endOfNumber_10 : decode prog_9_method_19_code 10 = .ok (.aload_n 0, 1) := by decide +kernel
theorem d_Not_endOfNumber_11 : decode prog_9_method_19_code 11 = .ok (.iload_n 1, 1) := by decide +kernel
theorem d_Not_endOfNumber_12 : decode prog_9_method_19_code 12 = .ok (.bipush 48, 2) := by decide +kernel
theorem d_Not_endOfNumber_14 : decode prog_9_method_19_code 14 = .ok (.invokevirtual 25, 3) := by decide +kernel
theorem ca_Not_endOfNumber_25 {X : cd_E} : cd_CV X m_Not_endOfNumber m_Not_has 25 2 6 := ⟨⟨by decide, kw_2_45, kw_1_3, ⟨by decide, by decide, by decide +kernel⟩, by decide, by decide⟩, ⟨_, rfl, rfl⟩, kw_2_44, kp_6, (Or.inl kw_2_42)⟩
theorem d_Not_endOfNumber_17 : decode prog_9_method_19_code 17 = .ok (.ifCond .eq 7, 3) := by decide +kernel
theorem d_Not_endOfNumber_24 : decode prog_9_method_19_code 24 = .ok (.iload_n 1, 1) := by decide +kernel
theorem d_Not_endOfNumber_25 : decode prog_9_method_19_code 25 = .ok (.iconst 1, 1) := by decide +kernel
theorem d_Not_endOfNumber_26 : decode prog_9_method_19_code 26 = .ok (.iadd, 1) := by decide +kernel
theorem d_Not_endOfNumber_27 : decode prog_9_method_19_code 27 = .ok (.istore_n 2, 1) := by decide +kernel
theorem d_Not_endOfNumber_28 : decode prog_9_method_19_code 28 = .ok (.iconst 1, 1) := by decide +kernel
theorem d_Not_endOfNumber_29 : decode prog_9_method_19_code 29 = .ok (.istore_n 3, 1) := by decide +kernel
theorem d_Not_endOfNumber_20 : decode prog_9_method_19_code 20 = .ok (.iload_n 1, 1) := by decide +kernel
theorem d_Not_endOfNumber_21 : decode prog_9_method_19_code 21 = .ok (.iconst 1, 1) := by decide +kernel
theorem d_Not_endOfNumber_22 : decode prog_9_method_19_code 22 = .ok (.iadd, 1) := by decide +kernel
theorem d_Not_endOfNumber_23 : decode prog_9_method_19_code 23 = .ok (.ireturn, 1) := by decide +kernel
theorem d_Not_endOfNumber_8 : decode prog_9_method_19_code 8 = .ok (.iconst (-1), 1) := by decide +kernel
theorem d_Not_endOfNumber_9 : decode prog_9_method_19_code 9 = .ok (.ireturn, 1) := by decide +kernel
theorem g_Not_endOfNumber {X : cd_E} {kc ks : Nat} {h : cd_H} {Q : Option Value → cd_H → Prop} {p1 : Int32} (F : cc_ok h) (H : cd_W X m_Not_hasDigit 0 0 0 [some (.ref 71), some (.int p1)] [] h (fun r1 h2 => ∃ x3 : Int32, r1 = some (.int x3) ∧ ((cc_ok h2) ∧ ((((¬ x3 = 0) → (cd_W X m_Not_has 0 0 0 [some (.ref 71), some (.int p1), some (.int 48)] [] h2 (fun r6 h7 => ∃ x8 : Int32, r6 = some (.int x8) ∧ ((cc_ok h7) ∧ ((((x8 = 0) → (cd_W X m_Not_endOfNumber kc ks 30 [some (.ref 71), none, some (.int (p1 + 1)), some (.int 1)] [] h7 Q)) ∧ ((¬ x8 = 0) → (Q (some (.int (p1 + 1))) h7)))))))) ∧ ((x3 = 0) → (Q (some (.int (-1))) h2))))))) : cd_W X m_Not_endOfNumber kc ks 0 [some (.ref 71), some (.int p1), none, none] [] h Q := by
  refine cd_aload_n (i := 0) (v := .ref 71) d_Not_endOfNumber_0 rfl rfl (cd_isr_ref _) ?_
  refine cd_iload_n (i := 1) d_Not_endOfNumber_1 rfl rfl ?_
  refine cd_callV (kc := kc) (ks := ks) (kc' := 0) (ks' := 0) (As := [.int p1]) (S := []) d_Not_endOfNumber_2 ca_Not_endOfNumber_40 (cc_k71 F) rfl (Nat.le_of_ble_eq_true rfl) (Nat.le_of_ble_eq_true rfl) ?_
  refine cd_W.mono (fun r1 h2 H => ?_) H
  obtain ⟨x3, rfl, H⟩ := H
  obtain ⟨F4, H⟩ := H
  show cd_W X m_Not_endOfNumber kc ks 5 [some (.ref 71), some (.int p1), none, none] [.int x3] h2 Q
  refine cd_if_ne (tgt := 10) d_Not_endOfNumber_5 (by decide) (fun t5 => ?_) (fun t5 => ?_)
  · replace H := H.1 t5
    refine cd_aload_n (i := 0) (v := .ref 71) d_Not_endOfNumber_10 rfl rfl (cd_isr_ref _) ?_
    refine cd_iload_n (i := 1) d_Not_endOfNumber_11 rfl rfl ?_
    refine cd_bipush (v := 48) d_Not_endOfNumber_12 (by decide) ?_
    refine cd_callV (kc := kc) (ks := ks) (kc' := 0) (ks' := 0) (As := [.int p1, .int 48]) (S := []) d_Not_endOfNumber_14 ca_Not_endOfNumber_25 (cc_k71 F4) rfl (Nat.le_of_ble_eq_true rfl) (Nat.le_of_ble_eq_true rfl) ?_
    refine cd_W.mono (fun r6 h7 H => ?_) H
    obtain ⟨x8, rfl, H⟩ := H
    obtain ⟨F9, H⟩ := H
    show cd_W X m_Not_endOfNumber kc ks 17 [some (.ref 71), some (.int p1), none, none] [.int x8] h7 Q
    refine cd_if_eq (tgt := 24) d_Not_endOfNumber_17 (by decide) (fun t10 => ?_) (fun t10 => ?_)
    · replace H := H.1 t10
      refine cd_iload_n (i := 1) d_Not_endOfNumber_24 rfl rfl ?_
      refine cd_iconst (v := 1) d_Not_endOfNumber_25 (by decide) ?_
      refine cd_iadd d_Not_endOfNumber_26 ?_
      refine cd_istore_n (i := 2) d_Not_endOfNumber_27 rfl (by decide) ?_
      show cd_W X m_Not_endOfNumber kc ks 28 [some (.ref 71), some (.int p1), some (.int (p1 + 1)), none] [] h7 Q
      refine cd_iconst (v := 1) d_Not_endOfNumber_28 (by decide) ?_
      refine cd_istore_n (i := 3) d_Not_endOfNumber_29 rfl (by decide) ?_
      show cd_W X m_Not_endOfNumber kc ks 30 [some (.ref 71), some (.int p1), some (.int (p1 + 1)), some (.int 1)] [] h7 Q
      refine cd_W.drop (i := 1) ?_
      exact H
    · replace H := H.2 t10
      refine cd_iload_n (i := 1) d_Not_endOfNumber_20 rfl rfl ?_
      refine cd_iconst (v := 1) d_Not_endOfNumber_21 (by decide) ?_
      refine cd_iadd d_Not_endOfNumber_22 ?_
      exact cd_iret d_Not_endOfNumber_23 rfl rfl H
  · replace H := H.2 t5
    refine cd_iconst (v := (-1)) d_Not_endOfNumber_8 (by decide) ?_
    exact cd_iret d_Not_endOfNumber_9 rfl rfl H

theorem d_Not_endOfNumber_30 : decode prog_9_method_19_code 30 = .ok (.iload_n 3, 1) := by decide +kernel
theorem d_Not_endOfNumber_31 : decode prog_9_method_19_code 31 = .ok (.bipush 9, 2) := by decide +kernel
theorem d_Not_endOfNumber_33 : decode prog_9_method_19_code 33 = .ok (.if_icmp .ge 20, 3) := by decide +kernel
theorem d_Not_endOfNumber_53 : decode prog_9_method_19_code 53 = .ok (.iload_n 2, 1) := by decide +kernel
theorem d_Not_endOfNumber_54 : decode prog_9_method_19_code 54 = .ok (.ireturn, 1) := by decide +kernel
theorem d_Not_endOfNumber_36 : decode prog_9_method_19_code 36 = .ok (.aload_n 0, 1) := by decide +kernel
theorem d_Not_endOfNumber_37 : decode prog_9_method_19_code 37 = .ok (.iload_n 2, 1) := by decide +kernel
theorem d_Not_endOfNumber_38 : decode prog_9_method_19_code 38 = .ok (.invokevirtual 40, 3) := by decide +kernel
theorem d_Not_endOfNumber_41 : decode prog_9_method_19_code 41 = .ok (.ifCond .eq 12, 3) := by decide +kernel
theorem d_Not_endOfNumber_44 : decode prog_9_method_19_code 44 = .ok (.iinc 2 1, 3) := by decide +kernel
theorem d_Not_endOfNumber_47 : decode prog_9_method_19_code 47 = .ok (.iinc 3 1, 3) := by decide +kernel
theorem d_Not_endOfNumber_50 : decode prog_9_method_19_code 50 = .ok (.goto (-20), 3) := by decide +kernel
theorem g_Not_endOfNumber_30 {X : cd_E} {kc ks : Nat} {h : cd_H} {Q : Option Value → cd_H → Prop} {v2 : Int32} {v3 : Int32} (F : cc_ok h) (H : (((9 ≤ v3) → (Q (some (.int v2)) h)) ∧ ((¬ 9 ≤ v3) → (cd_W X m_Not_hasDigit 0 0 0 [some (.ref 71), some (.int v2)] [] h (fun r2 h3 => ∃ x4 : Int32, r2 = some (.int x4) ∧ ((cc_ok h3) ∧ ((((x4 = 0) → (Q (some (.int v2)) h3)) ∧ ((¬ x4 = 0) → (cd_W X m_Not_endOfNumber kc ks 30 [some (.ref 71), none, some (.int (v2 + 1)), some (.int (v3 + 1))] [] h3 Q)))))))))) : cd_W X m_Not_endOfNumber kc ks 30 [some (.ref 71), none, some (.int v2), some (.int v3)] [] h Q := by
  refine cd_iload_n (i := 3) d_Not_endOfNumber_30 rfl rfl ?_
  refine cd_bipush (v := 9) d_Not_endOfNumber_31 (by decide) ?_
  refine cd_icmp_ge (tgt := 53) d_Not_endOfNumber_33 (by decide) (fun t1 => ?_) (fun t1 => ?_)
  · replace H := H.1 t1
    refine cd_iload_n (i := 2) d_Not_endOfNumber_53 rfl rfl ?_
    exact cd_iret d_Not_endOfNumber_54 rfl rfl H
  · replace H := H.2 t1
    refine cd_aload_n (i := 0) (v := .ref 71) d_Not_endOfNumber_36 rfl rfl (cd_isr_ref _) ?_
    refine cd_iload_n (i := 2) d_Not_endOfNumber_37 rfl rfl ?_
    refine cd_callV (kc := kc) (ks := ks) (kc' := 0) (ks' := 0) (As := [.int v2]) (S := []) d_Not_endOfNumber_38 ca_Not_endOfNumber_40 (cc_k71 F) rfl (Nat.le_of_ble_eq_true rfl) (Nat.le_of_ble_eq_true rfl) ?_
    refine cd_W.mono (fun r2 h3 H => ?_) H
    obtain ⟨x4, rfl, H⟩ := H
    obtain ⟨F5, H⟩ := H
    show cd_W X m_Not_endOfNumber kc ks 41 [some (.ref 71), none, some (.int v2), some (.int v3)] [.int x4] h3 Q
    refine cd_if_eq (tgt := 53) d_Not_endOfNumber_41 (by decide) (fun t6 => ?_) (fun t6 => ?_)
    · replace H := H.1 t6
      refine cd_iload_n (i := 2) d_Not_endOfNumber_53 rfl rfl ?_
      exact cd_iret d_Not_endOfNumber_54 rfl rfl H
    · replace H := H.2 t6
      refine cd_iinc (i := 2) (v := (v2 + 1)) d_Not_endOfNumber_44 rfl (cd_inc1 _) (by decide) ?_
      show cd_W X m_Not_endOfNumber kc ks 47 [some (.ref 71), none, some (.int (v2 + 1)), some (.int v3)] [] h3 Q
      refine cd_iinc (i := 3) (v := (v3 + 1)) d_Not_endOfNumber_47 rfl (cd_inc1 _) (by decide) ?_
      show cd_W X m_Not_endOfNumber kc ks 50 [some (.ref 71), none, some (.int (v2 + 1)), some (.int (v3 + 1))] [] h3 Q
      refine cd_goto (tgt := 30) d_Not_endOfNumber_50 (by decide) ?_
      exact H

abbrev m_Non_init : cd_M := (⟨"CertificateDesk$Nonces", "<init>", "()V"⟩, prog_8_method_1_code, 1, none, 1, 20)
theorem d_Non_init_0 : decode prog_8_method_1_code 0 = .ok (.aload_n 0, 1) := by decide +kernel
theorem d_Non_init_1 : decode prog_8_method_1_code 1 = .ok (.invokespecial 1, 3) := by decide +kernel
theorem kw_1_85 : (Jvm.Cond.methodLink "CertificateDesk$Nonces" (1 : Nat) ({ cls := "java/lang/Object", name := "<init>", desc := "()V" } : Jvm.MethodName)) ∈ cd_tbl := tb_1 (List.mem_of_getElem? (i := 85) (by decide +kernel)) (by decide)
theorem d_Non_init_4 : decode prog_8_method_1_code 4 = .ok (.aload_n 0, 1) := by decide +kernel
theorem d_Non_init_5 : decode prog_8_method_1_code 5 = .ok (.sipush 512, 3) := by decide +kernel
theorem d_Non_init_8 : decode prog_8_method_1_code 8 = .ok (.newarray .boolean, 2) := by decide +kernel
theorem kw_1_97 : (Jvm.Cond.arrayClass Jvm.ClassFile.FieldType.boolean) ∈ cd_tbl := tb_1 (List.mem_of_getElem? (i := 97) (by decide +kernel)) (by decide)
theorem d_Non_init_10 : decode prog_8_method_1_code 10 = .ok (.putfield 9, 3) := by decide +kernel
theorem kw_1_86 : (Jvm.Cond.fieldLink "CertificateDesk$Nonces" (9 : Nat) "CertificateDesk$Nonces" "spent" "[Z") ∈ cd_tbl := tb_1 (List.mem_of_getElem? (i := 86) (by decide +kernel)) (by decide)
theorem kw_1_89 : (Jvm.Cond.laysFinal "CertificateDesk$Nonces" "CertificateDesk$Nonces" "spent" "[Z") ∈ cd_tbl := tb_1 (List.mem_of_getElem? (i := 89) (by decide +kernel)) (by decide)
theorem kw_1_91 : (Jvm.Cond.lays "CertificateDesk$Nonces" "CertificateDesk$Nonces" "first" "I") ∈ cd_tbl := tb_1 (List.mem_of_getElem? (i := 91) (by decide +kernel)) (by decide)
theorem kw_1_93 : (Jvm.Cond.lays "CertificateDesk$Nonces" "CertificateDesk$Nonces" "given" "I") ∈ cd_tbl := tb_1 (List.mem_of_getElem? (i := 93) (by decide +kernel)) (by decide)
theorem kw_1_81 : (Jvm.Cond.instantiable "CertificateDesk$Nonces" (3 : Nat)) ∈ cd_tbl := tb_1 (List.mem_of_getElem? (i := 81) (by decide +kernel)) (by decide)
theorem kw_1_4 : (Jvm.Cond.initialized "CertificateDesk$Nonces") ∈ cd_tbl := tb_1 (List.mem_of_getElem? (i := 4) (by decide +kernel)) (by decide)
theorem cl_5 : cd_CL 5 3 := ⟨_, rfl, List.forall_mem_cons.mpr ⟨kw_1_89, List.forall_mem_cons.mpr ⟨kw_1_91, List.forall_mem_cons.mpr ⟨kw_1_93, fun _ h => absurd h List.not_mem_nil⟩⟩⟩, by decide +kernel, by decide +kernel, kw_1_81, kw_1_4, by decide +kernel⟩
theorem fp_Non_init_9 {X : cd_E} : cd_FP X m_Non_init 9 5 0 (.array .boolean) := cd_FP.of cl_5 rfl rfl (by decide) kw_1_86 (Or.inl rfl) (Or.inr ⟨rfl, rfl, rfl⟩)
theorem d_Non_init_13 : decode prog_8_method_1_code 13 = .ok (.aload_n 0, 1) := by decide +kernel
theorem d_Non_init_14 : decode prog_8_method_1_code 14 = .ok (.iconst 0, 1) := by decide +kernel
theorem d_Non_init_15 : decode prog_8_method_1_code 15 = .ok (.putfield 13, 3) := by decide +kernel
theorem kw_1_87 : (Jvm.Cond.fieldLink "CertificateDesk$Nonces" (13 : Nat) "CertificateDesk$Nonces" "first" "I") ∈ cd_tbl := tb_1 (List.mem_of_getElem? (i := 87) (by decide +kernel)) (by decide)
theorem fp_Non_init_13 {X : cd_E} : cd_FP X m_Non_init 13 5 1 .int := cd_FP.of cl_5 rfl rfl (by decide) kw_1_87 (Or.inl rfl) (Or.inl rfl)
theorem d_Non_init_18 : decode prog_8_method_1_code 18 = .ok (.aload_n 0, 1) := by decide +kernel
theorem d_Non_init_19 : decode prog_8_method_1_code 19 = .ok (.iconst 0, 1) := by decide +kernel
theorem d_Non_init_20 : decode prog_8_method_1_code 20 = .ok (.putfield 17, 3) := by decide +kernel
theorem kw_1_88 : (Jvm.Cond.fieldLink "CertificateDesk$Nonces" (17 : Nat) "CertificateDesk$Nonces" "given" "I") ∈ cd_tbl := tb_1 (List.mem_of_getElem? (i := 88) (by decide +kernel)) (by decide)
theorem fp_Non_init_17 {X : cd_E} : cd_FP X m_Non_init 17 5 2 .int := cd_FP.of cl_5 rfl rfl (by decide) kw_1_88 (Or.inl rfl) (Or.inl rfl)
theorem d_Non_init_23 : decode prog_8_method_1_code 23 = .ok (.return_, 1) := by decide +kernel
theorem g_Non_init {X : cd_E} {kc ks : Nat} {h : cd_H} {Q : Option Value → cd_H → Prop} {a0 : Nat} (H : (cd_k (cd_new h (.inr (2, 512))) a0 = some (.inl 5)) ∧ ((64 ≤ a0) ∧ (Q none (cd_si (cd_si (cd_sr (cd_new h (.inr (2, 512))) a0 0 (some (cd_n h))) a0 1 0) a0 2 0)))) : cd_W X m_Non_init (kc + 1) (ks + 512) 0 [some (.ref a0)] [] h Q := by
  refine cd_aload_n (i := 0) (v := .ref a0) d_Non_init_0 rfl rfl (cd_isr_ref _) ?_
  refine cd_objInit d_Non_init_1 kw_1_85 kw_1_35 kw_1_36 (by decide) (by decide) (Nat.le_of_ble_eq_true rfl) ?_
  refine cd_aload_n (i := 0) (v := .ref a0) d_Non_init_4 rfl rfl (cd_isr_ref _) ?_
  refine cd_sipush (v := 512) d_Non_init_5 (by decide) ?_
  refine cd_newa (z := 2) (N := 512) (kc := (kc + 0)) (ks := (ks + 0)) d_Non_init_8 rfl kw_1_97 rfl (by decide) (by decide) (by decide) ?_
  obtain ⟨c1, H⟩ := H
  obtain ⟨c2, H⟩ := H
  refine cd_putR (o := (some (cd_n h))) d_Non_init_10 fp_Non_init_9 (Or.inr ⟨_, rfl⟩) c1 c2 ?_
  refine cd_aload_n (i := 0) (v := .ref a0) d_Non_init_13 rfl rfl (cd_isr_ref _) ?_
  refine cd_iconst (v := 0) d_Non_init_14 (by decide) ?_
  refine cd_putI d_Non_init_15 fp_Non_init_13 (fun _ _ _ => rfl) c1 c2 rfl rfl ?_
  refine cd_aload_n (i := 0) (v := .ref a0) d_Non_init_18 rfl rfl (cd_isr_ref _) ?_
  refine cd_iconst (v := 0) d_Non_init_19 (by decide) ?_
  refine cd_putI d_Non_init_20 fp_Non_init_17 (fun _ _ _ => rfl) c1 c2 rfl rfl ?_
  exact cd_vret d_Non_init_23 rfl H

abbrev m_Non_give : cd_M := (⟨"CertificateDesk$Nonces", "give", "()I"⟩, prog_8_method_2_code, 2, some .int, 1, 20)
theorem d_Non_give_0 : decode prog_8_method_2_code 0 = .ok (.aload_n 0, 1) := by decide +kernel
theorem d_Non_give_1 : decode prog_8_method_2_code 1 = .ok (.getfield 13, 3) := by decide +kernel
theorem fl_Non_13 {X : cd_E} : cd_FL X "CertificateDesk$Nonces" 13 5 1 .int := cd_FL.of rfl rfl (by decide) kw_1_87 (Or.inl rfl)
theorem d_Non_give_4 : decode prog_8_method_2_code 4 = .ok (.aload_n 0, 1) := by decide +kernel
theorem d_Non_give_5 : decode prog_8_method_2_code 5 = .ok (.getfield 17, 3) := by decide +kernel
theorem fl_Non_17 {X : cd_E} : cd_FL X "CertificateDesk$Nonces" 17 5 2 .int := cd_FL.of rfl rfl (by decide) kw_1_88 (Or.inl rfl)
theorem d_Non_give_8 : decode prog_8_method_2_code 8 = .ok (.iadd, 1) := by decide +kernel
theorem d_Non_give_9 : decode prog_8_method_2_code 9 = .ok (.istore_n 1, 1) := by decide +kernel
theorem d_Non_give_10 : decode prog_8_method_2_code 10 = .ok (.aload_n 0, 1) := by decide +kernel
theorem d_Non_give_11 : decode prog_8_method_2_code 11 = .ok (.getfield 17, 3) := by decide +kernel
theorem d_Non_give_14 : decode prog_8_method_2_code 14 = .ok (.sipush 512, 3) := by decide +kernel
theorem d_Non_give_17 : decode prog_8_method_2_code 17 = .ok (.if_icmp .ge 23, 3) := by decide +kernel
theorem d_Non_give_40 : decode prog_8_method_2_code 40 = .ok (.iload_n 1, 1) := by decide +kernel
theorem d_Non_give_41 : decode prog_8_method_2_code 41 = .ok (.ireturn, 1) := by decide +kernel
theorem d_Non_give_20 : decode prog_8_method_2_code 20 = .ok (.aload_n 0, 1) := by decide +kernel
theorem d_Non_give_21 : decode prog_8_method_2_code 21 = .ok (.getfield 9, 3) := by decide +kernel
theorem fl_Non_9 {X : cd_E} : cd_FL X "CertificateDesk$Nonces" 9 5 0 (.array .boolean) := cd_FL.of rfl rfl (by decide) kw_1_86 (Or.inl rfl)
theorem d_Non_give_24 : decode prog_8_method_2_code 24 = .ok (.aload_n 0, 1) := by decide +kernel
theorem d_Non_give_25 : decode prog_8_method_2_code 25 = .ok (.getfield 17, 3) := by decide +kernel
theorem d_Non_give_28 : decode prog_8_method_2_code 28 = .ok (.iconst 0, 1) := by decide +kernel
theorem d_Non_give_29 : decode prog_8_method_2_code 29 = .ok (.bastore, 1) := by decide +kernel
theorem d_Non_give_30 : decode prog_8_method_2_code 30 = .ok (.aload_n 0, 1) := by decide +kernel
theorem d_Non_give_31 : decode prog_8_method_2_code 31 = .ok (.dup, 1) := by decide +kernel
theorem d_Non_give_32 : decode prog_8_method_2_code 32 = .ok (.getfield 17, 3) := by decide +kernel
theorem d_Non_give_35 : decode prog_8_method_2_code 35 = .ok (.iconst 1, 1) := by decide +kernel
theorem d_Non_give_36 : decode prog_8_method_2_code 36 = .ok (.iadd, 1) := by decide +kernel
theorem d_Non_give_37 : decode prog_8_method_2_code 37 = .ok (.putfield 17, 3) := by decide +kernel
theorem fp_Non_give_17 {X : cd_E} : cd_FP X m_Non_give 17 5 2 .int := cd_FP.of cl_5 rfl rfl (by decide) kw_1_88 (Or.inl rfl) (Or.inl rfl)
theorem g_Non_give {X : cd_E} {kc ks : Nat} {h : cd_H} {Q : Option Value → cd_H → Prop}  (F : cc_ok h) (H : (((512 ≤ (cd_i h 74 2)) → (Q (some (.int ((cd_i h 74 1) + (cd_i h 74 2)))) h)) ∧ ((¬ 512 ≤ (cd_i h 74 2)) → ((vp_in (cd_i h 74 2) 512) ∧ (Q (some (.int ((cd_i h 74 1) + (cd_i h 74 2)))) (cd_si (cd_si h 75 (cd_i h 74 2).toNatClampNeg (vp_nar .boolean 0)) 74 2 ((cd_i (cd_si h 75 (cd_i h 74 2).toNatClampNeg (vp_nar .boolean 0)) 74 2) + 1))))))) : cd_W X m_Non_give kc ks 0 [some (.ref 74), none] [] h Q := by
  refine cd_aload_n (i := 0) (v := .ref 74) d_Non_give_0 rfl rfl (cd_isr_ref _) ?_
  refine cd_get (v := .int (cd_i h 74 1)) d_Non_give_1 fl_Non_13 (cc_k74 F) rfl ?_
  refine cd_aload_n (i := 0) (v := .ref 74) d_Non_give_4 rfl rfl (cd_isr_ref _) ?_
  refine cd_get (v := .int (cd_i h 74 2)) d_Non_give_5 fl_Non_17 (cc_k74 F) rfl ?_
  refine cd_iadd d_Non_give_8 ?_
  refine cd_istore_n (i := 1) d_Non_give_9 rfl (by decide) ?_
  show cd_W X m_Non_give kc ks 10 [some (.ref 74), some (.int ((cd_i h 74 1) + (cd_i h 74 2)))] [] h Q
  refine cd_aload_n (i := 0) (v := .ref 74) d_Non_give_10 rfl rfl (cd_isr_ref _) ?_
  refine cd_get (v := .int (cd_i h 74 2)) d_Non_give_11 fl_Non_17 (cc_k74 F) rfl ?_
  refine cd_sipush (v := 512) d_Non_give_14 (by decide) ?_
  refine cd_icmp_ge (tgt := 40) d_Non_give_17 (by decide) (fun t1 => ?_) (fun t1 => ?_)
  · replace H := H.1 t1
    refine cd_iload_n (i := 1) d_Non_give_40 rfl rfl ?_
    exact cd_iret d_Non_give_41 rfl rfl H
  · replace H := H.2 t1
    refine cd_aload_n (i := 0) (v := .ref 74) d_Non_give_20 rfl rfl (cd_isr_ref _) ?_
    refine cd_get (v := .ref 75) d_Non_give_21 fl_Non_9 (cc_k74 F) (congrArg va_rf (cc_r74_0 F)) ?_
    refine cd_aload_n (i := 0) (v := .ref 74) d_Non_give_24 rfl rfl (cd_isr_ref _) ?_
    refine cd_get (v := .int (cd_i h 74 2)) d_Non_give_25 fl_Non_17 (cc_k74 F) rfl ?_
    refine cd_iconst (v := 0) d_Non_give_28 (by decide) ?_
    obtain ⟨c2, H⟩ := H
    refine cd_zasto (j := (cd_i h 74 2)) d_Non_give_29 rfl (cc_k75 F) (by decide) c2 ?_
    refine cd_aload_n (i := 0) (v := .ref 74) d_Non_give_30 rfl rfl (cd_isr_ref _) ?_
    refine cd_dup d_Non_give_31 rfl ?_
    refine cd_get (v := .int (cd_i (cd_si h 75 (cd_i h 74 2).toNatClampNeg (vp_nar .boolean 0)) 74 2)) d_Non_give_32 fl_Non_17 (cc_k74 F) rfl ?_
    refine cd_iconst (v := 1) d_Non_give_35 (by decide) ?_
    refine cd_iadd d_Non_give_36 ?_
    refine cd_putI d_Non_give_37 fp_Non_give_17 (fun _ _ _ => rfl) (cc_k74 F) (by decide) rfl rfl ?_
    refine cd_iload_n (i := 1) d_Non_give_40 rfl rfl ?_
    exact cd_iret d_Non_give_41 rfl rfl H

abbrev m_Non_spend : cd_M := (⟨"CertificateDesk$Nonces", "spend", "(I)Z"⟩, prog_8_method_3_code, 3, some .boolean, 1, 20)
theorem d_Non_spend_0 : decode prog_8_method_3_code 0 = .ok (.iload_n 1, 1) := by decide +kernel
theorem d_Non_spend_1 : decode prog_8_method_3_code 1 = .ok (.aload_n 0, 1) := by decide +kernel
theorem d_Non_spend_2 : decode prog_8_method_3_code 2 = .ok (.getfield 13, 3) := by decide +kernel
theorem d_Non_spend_5 : decode prog_8_method_3_code 5 = .ok (.isub, 1) := by decide +kernel
theorem d_Non_spend_6 : decode prog_8_method_3_code 6 = .ok (.istore_n 2, 1) := by decide +kernel
theorem d_Non_spend_7 : decode prog_8_method_3_code 7 = .ok (.iload_n 2, 1) := by decide +kernel
theorem d_Non_spend_8 : decode prog_8_method_3_code 8 = .ok (.ifCond .lt 20, 3) := by decide +kernel
theorem d_Non_spend_28 : decode prog_8_method_3_code 28 = .ok (.iconst 0, 1) := by decide +kernel
theorem d_Non_spend_29 : decode prog_8_method_3_code 29 = .ok (.ireturn, 1) := by decide +kernel
theorem d_Non_spend_11 : decode prog_8_method_3_code 11 = .ok (.iload_n 2, 1) := by decide +kernel
theorem d_Non_spend_12 : decode prog_8_method_3_code 12 = .ok (.aload_n 0, 1) := by decide +kernel
theorem d_Non_spend_13 : decode prog_8_method_3_code 13 = .ok (.getfield 17, 3) := by decide +kernel
theorem d_Non_spend_16 : decode prog_8_method_3_code 16 = .ok (.if_icmp .ge 12, 3) := by decide +kernel
theorem d_Non_spend_19 : decode prog_8_method_3_code 19 = .ok (.aload_n 0, 1) := by decide +kernel
theorem d_Non_spend_20 : decode prog_8_method_3_code 20 = .ok (.getfield 9, 3) := by decide +kernel
theorem d_Non_spend_23 : decode prog_8_method_3_code 23 = .ok (.iload_n 2, 1) := by decide +kernel
theorem d_Non_spend_24 : decode prog_8_method_3_code 24 = .ok (.baload, 1) := by decide +kernel
theorem d_Non_spend_25 : decode prog_8_method_3_code 25 = .ok (.ifCond .eq 5, 3) := by decide +kernel
theorem d_Non_spend_30 : decode prog_8_method_3_code 30 = .ok (.aload_n 0, 1) := by decide +kernel
theorem d_Non_spend_31 : decode prog_8_method_3_code 31 = .ok (.getfield 9, 3) := by decide +kernel
theorem d_Non_spend_34 : decode prog_8_method_3_code 34 = .ok (.iload_n 2, 1) := by decide +kernel
theorem d_Non_spend_35 : decode prog_8_method_3_code 35 = .ok (.iconst 1, 1) := by decide +kernel
theorem d_Non_spend_36 : decode prog_8_method_3_code 36 = .ok (.bastore, 1) := by decide +kernel
theorem d_Non_spend_37 : decode prog_8_method_3_code 37 = .ok (.iconst 1, 1) := by decide +kernel
theorem d_Non_spend_38 : decode prog_8_method_3_code 38 = .ok (.ireturn, 1) := by decide +kernel
theorem g_Non_spend {X : cd_E} {kc ks : Nat} {h : cd_H} {Q : Option Value → cd_H → Prop} {p1 : Int32} (F : cc_ok h) (H : ((((p1 - (cd_i h 74 1)) < 0) → (Q (some (.int 0)) h)) ∧ ((¬ (p1 - (cd_i h 74 1)) < 0) → (((((cd_i h 74 2) ≤ (p1 - (cd_i h 74 1))) → (Q (some (.int 0)) h)) ∧ ((¬ (cd_i h 74 2) ≤ (p1 - (cd_i h 74 1))) → ((vp_in (p1 - (cd_i h 74 1)) 512) ∧ (((((cd_i h 75 (p1 - (cd_i h 74 1)).toNatClampNeg) = 0) → (Q (some (.int 1)) (cd_si h 75 (p1 - (cd_i h 74 1)).toNatClampNeg (vp_nar .boolean 1)))) ∧ ((¬ (cd_i h 75 (p1 - (cd_i h 74 1)).toNatClampNeg) = 0) → (Q (some (.int 0)) h))))))))))) : cd_W X m_Non_spend kc ks 0 [some (.ref 74), some (.int p1), none] [] h Q := by
  refine cd_iload_n (i := 1) d_Non_spend_0 rfl rfl ?_
  refine cd_aload_n (i := 0) (v := .ref 74) d_Non_spend_1 rfl rfl (cd_isr_ref _) ?_
  refine cd_get (v := .int (cd_i h 74 1)) d_Non_spend_2 fl_Non_13 (cc_k74 F) rfl ?_
  refine cd_isub d_Non_spend_5 ?_
  refine cd_istore_n (i := 2) d_Non_spend_6 rfl (by decide) ?_
  show cd_W X m_Non_spend kc ks 7 [some (.ref 74), some (.int p1), some (.int (p1 - (cd_i h 74 1)))] [] h Q
  refine cd_iload_n (i := 2) d_Non_spend_7 rfl rfl ?_
  refine cd_if_lt (tgt := 28) d_Non_spend_8 (by decide) (fun t1 => ?_) (fun t1 => ?_)
  · replace H := H.1 t1
    refine cd_iconst (v := 0) d_Non_spend_28 (by decide) ?_
    exact cd_iret d_Non_spend_29 rfl rfl H
  · replace H := H.2 t1
    refine cd_iload_n (i := 2) d_Non_spend_11 rfl rfl ?_
    refine cd_aload_n (i := 0) (v := .ref 74) d_Non_spend_12 rfl rfl (cd_isr_ref _) ?_
    refine cd_get (v := .int (cd_i h 74 2)) d_Non_spend_13 fl_Non_17 (cc_k74 F) rfl ?_
    refine cd_icmp_ge (tgt := 28) d_Non_spend_16 (by decide) (fun t2 => ?_) (fun t2 => ?_)
    · replace H := H.1 t2
      refine cd_iconst (v := 0) d_Non_spend_28 (by decide) ?_
      exact cd_iret d_Non_spend_29 rfl rfl H
    · replace H := H.2 t2
      refine cd_aload_n (i := 0) (v := .ref 74) d_Non_spend_19 rfl rfl (cd_isr_ref _) ?_
      refine cd_get (v := .ref 75) d_Non_spend_20 fl_Non_9 (cc_k74 F) (congrArg va_rf (cc_r74_0 F)) ?_
      refine cd_iload_n (i := 2) d_Non_spend_23 rfl rfl ?_
      obtain ⟨c3, H⟩ := H
      refine cd_zald (j := (p1 - (cd_i h 74 1))) d_Non_spend_24 rfl (cc_k75 F) c3 ?_
      refine cd_if_eq (tgt := 30) d_Non_spend_25 (by decide) (fun t4 => ?_) (fun t4 => ?_)
      · replace H := H.1 t4
        refine cd_aload_n (i := 0) (v := .ref 74) d_Non_spend_30 rfl rfl (cd_isr_ref _) ?_
        refine cd_get (v := .ref 75) d_Non_spend_31 fl_Non_9 (cc_k74 F) (congrArg va_rf (cc_r74_0 F)) ?_
        refine cd_iload_n (i := 2) d_Non_spend_34 rfl rfl ?_
        refine cd_iconst (v := 1) d_Non_spend_35 (by decide) ?_
        refine cd_zasto (j := (p1 - (cd_i h 74 1))) d_Non_spend_36 rfl (cc_k75 F) (by decide) c3 ?_
        refine cd_iconst (v := 1) d_Non_spend_37 (by decide) ?_
        exact cd_iret d_Non_spend_38 rfl rfl H
      · replace H := H.2 t4
        refine cd_iconst (v := 0) d_Non_spend_28 (by decide) ?_
        exact cd_iret d_Non_spend_29 rfl rfl H

abbrev m_Non_forget : cd_M := (⟨"CertificateDesk$Nonces", "forget", "()V"⟩, prog_8_method_4_code, 1, none, 1, 20)
theorem d_Non_forget_0 : decode prog_8_method_4_code 0 = .ok (.aload_n 0, 1) := by decide +kernel
theorem d_Non_forget_1 : decode prog_8_method_4_code 1 = .ok (.dup, 1) := by decide +kernel
theorem d_Non_forget_2 : decode prog_8_method_4_code 2 = .ok (.getfield 13, 3) := by decide +kernel
theorem d_Non_forget_5 : decode prog_8_method_4_code 5 = .ok (.sipush 1000, 3) := by decide +kernel
theorem d_Non_forget_8 : decode prog_8_method_4_code 8 = .ok (.iadd, 1) := by decide +kernel
theorem d_Non_forget_9 : decode prog_8_method_4_code 9 = .ok (.putfield 13, 3) := by decide +kernel
theorem fp_Non_forget_13 {X : cd_E} : cd_FP X m_Non_forget 13 5 1 .int := cd_FP.of cl_5 rfl rfl (by decide) kw_1_87 (Or.inl rfl) (Or.inl rfl)
theorem d_Non_forget_12 : decode prog_8_method_4_code 12 = .ok (.aload_n 0, 1) := by decide +kernel
theorem d_Non_forget_13 : decode prog_8_method_4_code 13 = .ok (.iconst 0, 1) := by decide +kernel
theorem d_Non_forget_14 : decode prog_8_method_4_code 14 = .ok (.putfield 17, 3) := by decide +kernel
theorem fp_Non_forget_17 {X : cd_E} : cd_FP X m_Non_forget 17 5 2 .int := cd_FP.of cl_5 rfl rfl (by decide) kw_1_88 (Or.inl rfl) (Or.inl rfl)
theorem d_Non_forget_17 : decode prog_8_method_4_code 17 = .ok (.return_, 1) := by decide +kernel
theorem g_Non_forget {X : cd_E} {kc ks : Nat} {h : cd_H} {Q : Option Value → cd_H → Prop}  (F : cc_ok h) (H : Q none (cd_si (cd_si h 74 1 ((cd_i h 74 1) + 1000)) 74 2 0)) : cd_W X m_Non_forget kc ks 0 [some (.ref 74)] [] h Q := by
  refine cd_aload_n (i := 0) (v := .ref 74) d_Non_forget_0 rfl rfl (cd_isr_ref _) ?_
  refine cd_dup d_Non_forget_1 rfl ?_
  refine cd_get (v := .int (cd_i h 74 1)) d_Non_forget_2 fl_Non_13 (cc_k74 F) rfl ?_
  refine cd_sipush (v := 1000) d_Non_forget_5 (by decide) ?_
  refine cd_iadd d_Non_forget_8 ?_
  refine cd_putI d_Non_forget_9 fp_Non_forget_13 (fun _ _ _ => rfl) (cc_k74 F) (by decide) rfl rfl ?_
  refine cd_aload_n (i := 0) (v := .ref 74) d_Non_forget_12 rfl rfl (cd_isr_ref _) ?_
  refine cd_iconst (v := 0) d_Non_forget_13 (by decide) ?_
  refine cd_putI d_Non_forget_14 fp_Non_forget_17 (fun _ _ _ => rfl) (cc_k74 F) (by decide) rfl rfl ?_
  exact cd_vret d_Non_forget_17 rfl H

abbrev m_Acc_init : cd_M := (⟨"CertificateDesk$Account", "<init>", "(LCertificateDesk$Key;)V"⟩, prog_2_method_1_code, 2, none, 1, 20)
theorem d_Acc_init_0 : decode prog_2_method_1_code 0 = .ok (.aload_n 0, 1) := by decide +kernel
theorem d_Acc_init_1 : decode prog_2_method_1_code 1 = .ok (.invokespecial 1, 3) := by decide +kernel
theorem kw_2_156 : (Jvm.Cond.methodLink "CertificateDesk$Account" (1 : Nat) ({ cls := "java/lang/Object", name := "<init>", desc := "()V" } : Jvm.MethodName)) ∈ cd_tbl := tb_2 (List.mem_of_getElem? (i := 156) (by decide +kernel)) (by decide)
theorem d_Acc_init_4 : decode prog_2_method_1_code 4 = .ok (.aload_n 0, 1) := by decide +kernel
theorem d_Acc_init_5 : decode prog_2_method_1_code 5 = .ok (.iconst 0, 1) := by decide +kernel
theorem d_Acc_init_6 : decode prog_2_method_1_code 6 = .ok (.putfield 7, 3) := by decide +kernel
theorem kw_2_159 : (Jvm.Cond.fieldLink "CertificateDesk$Account" (7 : Nat) "CertificateDesk$Account" "closed" "Z") ∈ cd_tbl := tb_2 (List.mem_of_getElem? (i := 159) (by decide +kernel)) (by decide)
theorem kw_2_161 : (Jvm.Cond.laysFinal "CertificateDesk$Account" "CertificateDesk$Account" "key" "LCertificateDesk$Key;") ∈ cd_tbl := tb_2 (List.mem_of_getElem? (i := 161) (by decide +kernel)) (by decide)
theorem kw_2_163 : (Jvm.Cond.lays "CertificateDesk$Account" "CertificateDesk$Account" "closed" "Z") ∈ cd_tbl := tb_2 (List.mem_of_getElem? (i := 163) (by decide +kernel)) (by decide)
theorem kw_2_152 : (Jvm.Cond.instantiable "CertificateDesk$Account" (2 : Nat)) ∈ cd_tbl := tb_2 (List.mem_of_getElem? (i := 152) (by decide +kernel)) (by decide)
theorem kw_1_19 : (Jvm.Cond.initialized "CertificateDesk$Account") ∈ cd_tbl := tb_1 (List.mem_of_getElem? (i := 19) (by decide +kernel)) (by decide)
theorem cl_1 : cd_CL 1 2 := ⟨_, rfl, List.forall_mem_cons.mpr ⟨kw_2_161, List.forall_mem_cons.mpr ⟨kw_2_163, fun _ h => absurd h List.not_mem_nil⟩⟩, by decide +kernel, by decide +kernel, kw_2_152, kw_1_19, by decide +kernel⟩
theorem fp_Acc_init_7 {X : cd_E} : cd_FP X m_Acc_init 7 1 1 .boolean := cd_FP.of cl_1 rfl rfl (by decide) kw_2_159 (Or.inl rfl) (Or.inl rfl)
theorem d_Acc_init_9 : decode prog_2_method_1_code 9 = .ok (.aload_n 0, 1) := by decide +kernel
theorem d_Acc_init_10 : decode prog_2_method_1_code 10 = .ok (.aload_n 1, 1) := by decide +kernel
theorem d_Acc_init_11 : decode prog_2_method_1_code 11 = .ok (.putfield 13, 3) := by decide +kernel
theorem kw_2_157 : (Jvm.Cond.fieldLink "CertificateDesk$Account" (13 : Nat) "CertificateDesk$Account" "key" "LCertificateDesk$Key;") ∈ cd_tbl := tb_2 (List.mem_of_getElem? (i := 157) (by decide +kernel)) (by decide)
theorem fp_Acc_init_13 {X : cd_E} : cd_FP X m_Acc_init 13 1 0 (.object "CertificateDesk$Key") := cd_FP.of cl_1 rfl rfl (by decide) kw_2_157 (Or.inl rfl) (Or.inr ⟨rfl, rfl, rfl⟩)
theorem d_Acc_init_14 : decode prog_2_method_1_code 14 = .ok (.return_, 1) := by decide +kernel
theorem g_Acc_init {X : cd_E} {kc ks : Nat} {h : cd_H} {Q : Option Value → cd_H → Prop} {a0 : Nat} {p1 : Nat} (H : (cd_k h a0 = some (.inl 1)) ∧ ((64 ≤ a0) ∧ (Q none (cd_sr (cd_si h a0 1 0) a0 0 (some p1))))) : cd_W X m_Acc_init kc ks 0 [some (.ref a0), some (.ref p1)] [] h Q := by
  refine cd_aload_n (i := 0) (v := .ref a0) d_Acc_init_0 rfl rfl (cd_isr_ref _) ?_
  refine cd_objInit d_Acc_init_1 kw_2_156 kw_1_35 kw_1_36 (by decide) (by decide) (Nat.le_of_ble_eq_true rfl) ?_
  refine cd_aload_n (i := 0) (v := .ref a0) d_Acc_init_4 rfl rfl (cd_isr_ref _) ?_
  refine cd_iconst (v := 0) d_Acc_init_5 (by decide) ?_
  obtain ⟨c1, H⟩ := H
  obtain ⟨c2, H⟩ := H
  refine cd_putI d_Acc_init_6 fp_Acc_init_7 (fun _ _ _ => rfl) c1 c2 rfl (by decide) ?_
  refine cd_aload_n (i := 0) (v := .ref a0) d_Acc_init_9 rfl rfl (cd_isr_ref _) ?_
  refine cd_aload_n (i := 1) (v := .ref p1) d_Acc_init_10 rfl rfl (cd_isr_ref _) ?_
  refine cd_putR (o := (some p1)) d_Acc_init_11 fp_Acc_init_13 (Or.inl ⟨_, rfl⟩) c1 c2 ?_
  exact cd_vret d_Acc_init_14 rfl H

abbrev m_Aut_init : cd_M := (⟨"CertificateDesk$Authorization", "<init>", "(ILCertificateDesk$Account;Ljava/lang/String;II)V"⟩, prog_3_method_1_code, 6, none, 1, 20)
theorem d_Aut_init_0 : decode prog_3_method_1_code 0 = .ok (.aload_n 0, 1) := by decide +kernel
theorem d_Aut_init_1 : decode prog_3_method_1_code 1 = .ok (.invokespecial 3, 3) := by decide +kernel
theorem kw_3_224 : (Jvm.Cond.methodLink "CertificateDesk$Authorization" (3 : Nat) ({ cls := "java/lang/Object", name := "<init>", desc := "()V" } : Jvm.MethodName)) ∈ cd_tbl := tb_3 (List.mem_of_getElem? (i := 224) (by decide +kernel)) (by decide)
theorem d_Aut_init_4 : decode prog_3_method_1_code 4 = .ok (.aload_n 0, 1) := by decide +kernel
theorem d_Aut_init_5 : decode prog_3_method_1_code 5 = .ok (.iconst 0, 1) := by decide +kernel
theorem d_Aut_init_6 : decode prog_3_method_1_code 6 = .ok (.putfield 9, 3) := by decide +kernel
theorem kw_3_234 : (Jvm.Cond.fieldLink "CertificateDesk$Authorization" (9 : Nat) "CertificateDesk$Authorization" "decision" "I") ∈ cd_tbl := tb_3 (List.mem_of_getElem? (i := 234) (by decide +kernel)) (by decide)
theorem kw_4_0 : (Jvm.Cond.laysFinal "CertificateDesk$Authorization" "CertificateDesk$Authorization" "number" "I") ∈ cd_tbl := tb_4 (List.mem_of_getElem? (i := 0) (by decide +kernel)) (by decide)
theorem kw_4_2 : (Jvm.Cond.laysFinal "CertificateDesk$Authorization" "CertificateDesk$Authorization" "owner" "LCertificateDesk$Account;") ∈ cd_tbl := tb_4 (List.mem_of_getElem? (i := 2) (by decide +kernel)) (by decide)
theorem kw_4_4 : (Jvm.Cond.laysFinal "CertificateDesk$Authorization" "CertificateDesk$Authorization" "name" "Ljava/lang/String;") ∈ cd_tbl := tb_4 (List.mem_of_getElem? (i := 4) (by decide +kernel)) (by decide)
theorem kw_4_6 : (Jvm.Cond.laysFinal "CertificateDesk$Authorization" "CertificateDesk$Authorization" "made" "I") ∈ cd_tbl := tb_4 (List.mem_of_getElem? (i := 6) (by decide +kernel)) (by decide)
theorem kw_4_8 : (Jvm.Cond.laysFinal "CertificateDesk$Authorization" "CertificateDesk$Authorization" "place" "I") ∈ cd_tbl := tb_4 (List.mem_of_getElem? (i := 8) (by decide +kernel)) (by decide)
theorem kw_4_10 : (Jvm.Cond.lays "CertificateDesk$Authorization" "CertificateDesk$Authorization" "decision" "I") ∈ cd_tbl := tb_4 (List.mem_of_getElem? (i := 10) (by decide +kernel)) (by decide)
theorem kw_4_12 : (Jvm.Cond.lays "CertificateDesk$Authorization" "CertificateDesk$Authorization" "since" "I") ∈ cd_tbl := tb_4 (List.mem_of_getElem? (i := 12) (by decide +kernel)) (by decide)
theorem kw_4_14 : (Jvm.Cond.lays "CertificateDesk$Authorization" "CertificateDesk$Authorization" "trialWay" "I") ∈ cd_tbl := tb_4 (List.mem_of_getElem? (i := 14) (by decide +kernel)) (by decide)
theorem kw_3_208 : (Jvm.Cond.instantiable "CertificateDesk$Authorization" (8 : Nat)) ∈ cd_tbl := tb_3 (List.mem_of_getElem? (i := 208) (by decide +kernel)) (by decide)
theorem kw_1_26 : (Jvm.Cond.initialized "CertificateDesk$Authorization") ∈ cd_tbl := tb_1 (List.mem_of_getElem? (i := 26) (by decide +kernel)) (by decide)
theorem cl_2 : cd_CL 2 8 := ⟨_, rfl, List.forall_mem_cons.mpr ⟨kw_4_0, List.forall_mem_cons.mpr ⟨kw_4_2, List.forall_mem_cons.mpr ⟨kw_4_4, List.forall_mem_cons.mpr ⟨kw_4_6, List.forall_mem_cons.mpr ⟨kw_4_8, List.forall_mem_cons.mpr ⟨kw_4_10, List.forall_mem_cons.mpr ⟨kw_4_12, List.forall_mem_cons.mpr ⟨kw_4_14, fun _ h => absurd h List.not_mem_nil⟩⟩⟩⟩⟩⟩⟩⟩, by decide +kernel, by decide +kernel, kw_3_208, kw_1_26, by decide +kernel⟩
theorem fp_Aut_init_9 {X : cd_E} : cd_FP X m_Aut_init 9 2 5 .int := cd_FP.of cl_2 rfl rfl (by decide) kw_3_234 (Or.inl rfl) (Or.inl rfl)
theorem d_Aut_init_9 : decode prog_3_method_1_code 9 = .ok (.aload_n 0, 1) := by decide +kernel
theorem d_Aut_init_10 : decode prog_3_method_1_code 10 = .ok (.iconst (-1), 1) := by decide +kernel
theorem d_Aut_init_11 : decode prog_3_method_1_code 11 = .ok (.putfield 15, 3) := by decide +kernel
theorem kw_3_238 : (Jvm.Cond.fieldLink "CertificateDesk$Authorization" (15 : Nat) "CertificateDesk$Authorization" "trialWay" "I") ∈ cd_tbl := tb_3 (List.mem_of_getElem? (i := 238) (by decide +kernel)) (by decide)
theorem fp_Aut_init_15 {X : cd_E} : cd_FP X m_Aut_init 15 2 7 .int := cd_FP.of cl_2 rfl rfl (by decide) kw_3_238 (Or.inl rfl) (Or.inl rfl)
theorem d_Aut_init_14 : decode prog_3_method_1_code 14 = .ok (.aload_n 0, 1) := by decide +kernel
theorem d_Aut_init_15 : decode prog_3_method_1_code 15 = .ok (.iload_n 1, 1) := by decide +kernel
theorem d_Aut_init_16 : decode prog_3_method_1_code 16 = .ok (.putfield 18, 3) := by decide +kernel
theorem kw_3_225 : (Jvm.Cond.fieldLink "CertificateDesk$Authorization" (18 : Nat) "CertificateDesk$Authorization" "number" "I") ∈ cd_tbl := tb_3 (List.mem_of_getElem? (i := 225) (by decide +kernel)) (by decide)
theorem fp_Aut_init_18 {X : cd_E} : cd_FP X m_Aut_init 18 2 0 .int := cd_FP.of cl_2 rfl rfl (by decide) kw_3_225 (Or.inl rfl) (Or.inr ⟨rfl, rfl, rfl⟩)
theorem d_Aut_init_19 : decode prog_3_method_1_code 19 = .ok (.aload_n 0, 1) := by decide +kernel
theorem d_Aut_init_20 : decode prog_3_method_1_code 20 = .ok (.aload_n 2, 1) := by decide +kernel
theorem d_Aut_init_21 : decode prog_3_method_1_code 21 = .ok (.putfield 21, 3) := by decide +kernel
theorem kw_3_227 : (Jvm.Cond.fieldLink "CertificateDesk$Authorization" (21 : Nat) "CertificateDesk$Authorization" "owner" "LCertificateDesk$Account;") ∈ cd_tbl := tb_3 (List.mem_of_getElem? (i := 227) (by decide +kernel)) (by decide)
theorem fp_Aut_init_21 {X : cd_E} : cd_FP X m_Aut_init 21 2 1 (.object "CertificateDesk$Account") := cd_FP.of cl_2 rfl rfl (by decide) kw_3_227 (Or.inl rfl) (Or.inr ⟨rfl, rfl, rfl⟩)
theorem d_Aut_init_24 : decode prog_3_method_1_code 24 = .ok (.aload_n 0, 1) := by decide +kernel
theorem d_Aut_init_25 : decode prog_3_method_1_code 25 = .ok (.aload_n 3, 1) := by decide +kernel
theorem d_Aut_init_26 : decode prog_3_method_1_code 26 = .ok (.putfield 25, 3) := by decide +kernel
theorem kw_3_229 : (Jvm.Cond.fieldLink "CertificateDesk$Authorization" (25 : Nat) "CertificateDesk$Authorization" "name" "Ljava/lang/String;") ∈ cd_tbl := tb_3 (List.mem_of_getElem? (i := 229) (by decide +kernel)) (by decide)
theorem fp_Aut_init_25 {X : cd_E} : cd_FP X m_Aut_init 25 2 2 (.object "java/lang/String") := cd_FP.of cl_2 rfl rfl (by decide) kw_3_229 (Or.inl rfl) (Or.inr ⟨rfl, rfl, rfl⟩)
theorem d_Aut_init_29 : decode prog_3_method_1_code 29 = .ok (.aload_n 0, 1) := by decide +kernel
theorem d_Aut_init_30 : decode prog_3_method_1_code 30 = .ok (.iload 4, 2) := by decide +kernel
theorem d_Aut_init_32 : decode prog_3_method_1_code 32 = .ok (.putfield 29, 3) := by decide +kernel
theorem kw_3_231 : (Jvm.Cond.fieldLink "CertificateDesk$Authorization" (29 : Nat) "CertificateDesk$Authorization" "made" "I") ∈ cd_tbl := tb_3 (List.mem_of_getElem? (i := 231) (by decide +kernel)) (by decide)
theorem fp_Aut_init_29 {X : cd_E} : cd_FP X m_Aut_init 29 2 3 .int := cd_FP.of cl_2 rfl rfl (by decide) kw_3_231 (Or.inl rfl) (Or.inr ⟨rfl, rfl, rfl⟩)
theorem d_Aut_init_35 : decode prog_3_method_1_code 35 = .ok (.aload_n 0, 1) := by decide +kernel
theorem d_Aut_init_36 : decode prog_3_method_1_code 36 = .ok (.iload 5, 2) := by decide +kernel
theorem d_Aut_init_38 : decode prog_3_method_1_code 38 = .ok (.putfield 32, 3) := by decide +kernel
theorem kw_3_232 : (Jvm.Cond.fieldLink "CertificateDesk$Authorization" (32 : Nat) "CertificateDesk$Authorization" "place" "I") ∈ cd_tbl := tb_3 (List.mem_of_getElem? (i := 232) (by decide +kernel)) (by decide)
theorem fp_Aut_init_32 {X : cd_E} : cd_FP X m_Aut_init 32 2 4 .int := cd_FP.of cl_2 rfl rfl (by decide) kw_3_232 (Or.inl rfl) (Or.inr ⟨rfl, rfl, rfl⟩)
theorem d_Aut_init_41 : decode prog_3_method_1_code 41 = .ok (.aload_n 0, 1) := by decide +kernel
theorem d_Aut_init_42 : decode prog_3_method_1_code 42 = .ok (.iload 4, 2) := by decide +kernel
theorem d_Aut_init_44 : decode prog_3_method_1_code 44 = .ok (.putfield 35, 3) := by decide +kernel
theorem kw_3_236 : (Jvm.Cond.fieldLink "CertificateDesk$Authorization" (35 : Nat) "CertificateDesk$Authorization" "since" "I") ∈ cd_tbl := tb_3 (List.mem_of_getElem? (i := 236) (by decide +kernel)) (by decide)
theorem fp_Aut_init_35 {X : cd_E} : cd_FP X m_Aut_init 35 2 6 .int := cd_FP.of cl_2 rfl rfl (by decide) kw_3_236 (Or.inl rfl) (Or.inl rfl)
theorem d_Aut_init_47 : decode prog_3_method_1_code 47 = .ok (.return_, 1) := by decide +kernel
theorem g_Aut_init {X : cd_E} {kc ks : Nat} {h : cd_H} {Q : Option Value → cd_H → Prop} {a0 : Nat} {p1 : Int32} {p2 : Nat} {p3 : Nat} {p4 : Int32} {p5 : Int32} (H : (cd_k h a0 = some (.inl 2)) ∧ ((64 ≤ a0) ∧ (Q none (cd_si (cd_si (cd_si (cd_sr (cd_sr (cd_si (cd_si (cd_si h a0 5 0) a0 7 (-1)) a0 0 p1) a0 1 (some p2)) a0 2 (some p3)) a0 3 p4) a0 4 p5) a0 6 p4)))) : cd_W X m_Aut_init kc ks 0 [some (.ref a0), some (.int p1), some (.ref p2), some (.ref p3), some (.int p4), some (.int p5)] [] h Q := by
  refine cd_aload_n (i := 0) (v := .ref a0) d_Aut_init_0 rfl rfl (cd_isr_ref _) ?_
  refine cd_objInit d_Aut_init_1 kw_3_224 kw_1_35 kw_1_36 (by decide) (by decide) (Nat.le_of_ble_eq_true rfl) ?_
  refine cd_aload_n (i := 0) (v := .ref a0) d_Aut_init_4 rfl rfl (cd_isr_ref _) ?_
  refine cd_iconst (v := 0) d_Aut_init_5 (by decide) ?_
  obtain ⟨c1, H⟩ := H
  obtain ⟨c2, H⟩ := H
  refine cd_putI d_Aut_init_6 fp_Aut_init_9 (fun _ _ _ => rfl) c1 c2 rfl rfl ?_
  refine cd_aload_n (i := 0) (v := .ref a0) d_Aut_init_9 rfl rfl (cd_isr_ref _) ?_
  refine cd_iconst (v := (-1)) d_Aut_init_10 (by decide) ?_
  refine cd_putI d_Aut_init_11 fp_Aut_init_15 (fun _ _ _ => rfl) c1 c2 rfl rfl ?_
  refine cd_aload_n (i := 0) (v := .ref a0) d_Aut_init_14 rfl rfl (cd_isr_ref _) ?_
  refine cd_iload_n (i := 1) d_Aut_init_15 rfl rfl ?_
  refine cd_putI d_Aut_init_16 fp_Aut_init_18 (fun _ _ _ => rfl) c1 c2 rfl rfl ?_
  refine cd_aload_n (i := 0) (v := .ref a0) d_Aut_init_19 rfl rfl (cd_isr_ref _) ?_
  refine cd_aload_n (i := 2) (v := .ref p2) d_Aut_init_20 rfl rfl (cd_isr_ref _) ?_
  refine cd_putR (o := (some p2)) d_Aut_init_21 fp_Aut_init_21 (Or.inl ⟨_, rfl⟩) c1 c2 ?_
  refine cd_aload_n (i := 0) (v := .ref a0) d_Aut_init_24 rfl rfl (cd_isr_ref _) ?_
  refine cd_aload_n (i := 3) (v := .ref p3) d_Aut_init_25 rfl rfl (cd_isr_ref _) ?_
  refine cd_putR (o := (some p3)) d_Aut_init_26 fp_Aut_init_25 (Or.inl ⟨_, rfl⟩) c1 c2 ?_
  refine cd_aload_n (i := 0) (v := .ref a0) d_Aut_init_29 rfl rfl (cd_isr_ref _) ?_
  refine cd_iload (i := 4) d_Aut_init_30 rfl ?_
  refine cd_putI d_Aut_init_32 fp_Aut_init_29 (fun _ _ _ => rfl) c1 c2 rfl rfl ?_
  refine cd_aload_n (i := 0) (v := .ref a0) d_Aut_init_35 rfl rfl (cd_isr_ref _) ?_
  refine cd_iload (i := 5) d_Aut_init_36 rfl ?_
  refine cd_putI d_Aut_init_38 fp_Aut_init_32 (fun _ _ _ => rfl) c1 c2 rfl rfl ?_
  refine cd_aload_n (i := 0) (v := .ref a0) d_Aut_init_41 rfl rfl (cd_isr_ref _) ?_
  refine cd_iload (i := 4) d_Aut_init_42 rfl ?_
  refine cd_putI d_Aut_init_44 fp_Aut_init_35 (fun _ _ _ => rfl) c1 c2 rfl rfl ?_
  exact cd_vret d_Aut_init_47 rfl H

abbrev m_Aut_decide : cd_M := (⟨"CertificateDesk$Authorization", "decide", "(ZI)V"⟩, prog_3_method_2_code, 3, none, 1, 20)
theorem d_Aut_decide_0 : decode prog_3_method_2_code 0 = .ok (.aload_n 0, 1) := by decide +kernel
theorem d_Aut_decide_1 : decode prog_3_method_2_code 1 = .ok (.iload_n 1, 1) := by decide +kernel
theorem d_Aut_decide_2 : decode prog_3_method_2_code 2 = .ok (.ifCond .eq 7, 3) := by decide +kernel
theorem d_Aut_decide_9 : decode prog_3_method_2_code 9 = .ok (.iconst 3, 1) := by decide +kernel
theorem d_Aut_decide_10 : decode prog_3_method_2_code 10 = .ok (.putfield 9, 3) := by decide +kernel
theorem fp_Aut_decide_9 {X : cd_E} : cd_FP X m_Aut_decide 9 2 5 .int := cd_FP.of cl_2 rfl rfl (by decide) kw_3_234 (Or.inl rfl) (Or.inl rfl)
theorem d_Aut_decide_13 : decode prog_3_method_2_code 13 = .ok (.aload_n 0, 1) := by decide +kernel
theorem d_Aut_decide_14 : decode prog_3_method_2_code 14 = .ok (.iload_n 2, 1) := by decide +kernel
theorem d_Aut_decide_15 : decode prog_3_method_2_code 15 = .ok (.putfield 35, 3) := by decide +kernel
theorem fp_Aut_decide_35 {X : cd_E} : cd_FP X m_Aut_decide 35 2 6 .int := cd_FP.of cl_2 rfl rfl (by decide) kw_3_236 (Or.inl rfl) (Or.inl rfl)
theorem d_Aut_decide_18 : decode prog_3_method_2_code 18 = .ok (.return_, 1) := by decide +kernel
theorem d_Aut_decide_5 : decode prog_3_method_2_code 5 = .ok (.iconst 2, 1) := by decide +kernel
theorem d_Aut_decide_6 : decode prog_3_method_2_code 6 = .ok (.goto 4, 3) := by decide +kernel
theorem g_Aut_decide {X : cd_E} {kc ks : Nat} {h : cd_H} {Q : Option Value → cd_H → Prop} {a0 : Nat} {p1 : Int32} {p2 : Int32} (F : cc_ok h) (H : (((p1 = 0) → ((cd_k h a0 = some (.inl 2)) ∧ ((64 ≤ a0) ∧ (Q none (cd_si (cd_si h a0 5 3) a0 6 p2))))) ∧ ((¬ p1 = 0) → ((cd_k h a0 = some (.inl 2)) ∧ ((64 ≤ a0) ∧ (Q none (cd_si (cd_si h a0 5 2) a0 6 p2))))))) : cd_W X m_Aut_decide kc ks 0 [some (.ref a0), some (.int p1), some (.int p2)] [] h Q := by
  refine cd_aload_n (i := 0) (v := .ref a0) d_Aut_decide_0 rfl rfl (cd_isr_ref _) ?_
  refine cd_iload_n (i := 1) d_Aut_decide_1 rfl rfl ?_
  refine cd_if_eq (tgt := 9) d_Aut_decide_2 (by decide) (fun t1 => ?_) (fun t1 => ?_)
  · replace H := H.1 t1
    refine cd_iconst (v := 3) d_Aut_decide_9 (by decide) ?_
    obtain ⟨c2, H⟩ := H
    obtain ⟨c3, H⟩ := H
    refine cd_putI d_Aut_decide_10 fp_Aut_decide_9 (fun _ _ _ => rfl) c2 c3 rfl rfl ?_
    refine cd_aload_n (i := 0) (v := .ref a0) d_Aut_decide_13 rfl rfl (cd_isr_ref _) ?_
    refine cd_iload_n (i := 2) d_Aut_decide_14 rfl rfl ?_
    refine cd_putI d_Aut_decide_15 fp_Aut_decide_35 (fun _ _ _ => rfl) c2 c3 rfl rfl ?_
    exact cd_vret d_Aut_decide_18 rfl H
  · replace H := H.2 t1
    refine cd_iconst (v := 2) d_Aut_decide_5 (by decide) ?_
    refine cd_goto (tgt := 10) d_Aut_decide_6 (by decide) ?_
    obtain ⟨c4, H⟩ := H
    obtain ⟨c5, H⟩ := H
    refine cd_putI d_Aut_decide_10 fp_Aut_decide_9 (fun _ _ _ => rfl) c4 c5 rfl rfl ?_
    refine cd_aload_n (i := 0) (v := .ref a0) d_Aut_decide_13 rfl rfl (cd_isr_ref _) ?_
    refine cd_iload_n (i := 2) d_Aut_decide_14 rfl rfl ?_
    refine cd_putI d_Aut_decide_15 fp_Aut_decide_35 (fun _ _ _ => rfl) c4 c5 rfl rfl ?_
    exact cd_vret d_Aut_decide_18 rfl H

abbrev m_Aut_tokenDigest : cd_M := (⟨"CertificateDesk$Authorization", "tokenDigest", "()I"⟩, prog_3_method_3_code, 2, some .int, 28, 614)
theorem d_Aut_tokenDigest_0 : decode prog_3_method_3_code 0 = .ok (.bipush 7, 2) := by decide +kernel
theorem d_Aut_tokenDigest_2 : decode prog_3_method_3_code 2 = .ok (.aload_n 0, 1) := by decide +kernel
theorem d_Aut_tokenDigest_3 : decode prog_3_method_3_code 3 = .ok (.getfield 25, 3) := by decide +kernel
theorem fl_Aut_25 {X : cd_E} : cd_FL X "CertificateDesk$Authorization" 25 2 2 (.object "java/lang/String") := cd_FL.of rfl rfl (by decide) kw_3_229 (Or.inl rfl)
theorem d_Aut_tokenDigest_6 : decode prog_3_method_3_code 6 = .ok (.invokestatic 40, 3) := by decide +kernel
theorem kw_4_177 : (Jvm.Cond.methodLink "CertificateDesk$Authorization" (40 : Nat) ({ cls := "CertificateDesk$Digest", name := "withText", desc := "(ILjava/lang/String;)I" } : Jvm.MethodName)) ∈ cd_tbl := tb_4 (List.mem_of_getElem? (i := 177) (by decide +kernel)) (by decide)
theorem kw_4_179 : (Jvm.Cond.code ({ cls := "CertificateDesk$Digest", name := "withText", desc := "(ILjava/lang/String;)I" } : Jvm.MethodName) prog_5_method_3_code (4 : Nat) (Option.some Jvm.ClassFile.FieldType.int)) ∈ cd_tbl := tb_4 (List.mem_of_getElem? (i := 179) (by decide +kernel)) (by decide)
theorem kw_4_178 : (Jvm.Cond.static ({ cls := "CertificateDesk$Digest", name := "withText", desc := "(ILjava/lang/String;)I" } : Jvm.MethodName)) ∈ cd_tbl := tb_4 (List.mem_of_getElem? (i := 178) (by decide +kernel)) (by decide)
theorem ca_Aut_tokenDigest_40 {X : cd_E} : cd_CS X m_Aut_tokenDigest m_Dig_withText 40 2 := ⟨⟨by decide, kw_4_179, kw_1_11, ⟨by decide, by decide, by decide +kernel⟩, by decide, by decide⟩, kw_4_178, (Or.inl kw_4_177)⟩
theorem d_Aut_tokenDigest_9 : decode prog_3_method_3_code 9 = .ok (.bipush 47, 2) := by decide +kernel
theorem d_Aut_tokenDigest_11 : decode prog_3_method_3_code 11 = .ok (.invokestatic 44, 3) := by decide +kernel
theorem kw_4_182 : (Jvm.Cond.methodLink "CertificateDesk$Authorization" (44 : Nat) ({ cls := "CertificateDesk$Digest", name := "with", desc := "(II)I" } : Jvm.MethodName)) ∈ cd_tbl := tb_4 (List.mem_of_getElem? (i := 182) (by decide +kernel)) (by decide)
theorem ca_Aut_tokenDigest_44 {X : cd_E} : cd_CS X m_Aut_tokenDigest m_Dig_with 44 2 := ⟨⟨by decide, kw_1_223, kw_1_11, ⟨by decide, by decide, by decide +kernel⟩, by decide, by decide⟩, kw_1_222, (Or.inl kw_4_182)⟩
theorem d_Aut_tokenDigest_14 : decode prog_3_method_3_code 14 = .ok (.istore_n 1, 1) := by decide +kernel
theorem d_Aut_tokenDigest_15 : decode prog_3_method_3_code 15 = .ok (.iload_n 1, 1) := by decide +kernel
theorem d_Aut_tokenDigest_16 : decode prog_3_method_3_code 16 = .ok (.aload_n 0, 1) := by decide +kernel
theorem d_Aut_tokenDigest_17 : decode prog_3_method_3_code 17 = .ok (.getfield 18, 3) := by decide +kernel
theorem fl_Aut_18 {X : cd_E} : cd_FL X "CertificateDesk$Authorization" 18 2 0 .int := cd_FL.of rfl rfl (by decide) kw_3_225 (Or.inl rfl)
theorem d_Aut_tokenDigest_20 : decode prog_3_method_3_code 20 = .ok (.invokestatic 48, 3) := by decide +kernel
theorem kw_4_183 : (Jvm.Cond.methodLink "CertificateDesk$Authorization" (48 : Nat) ({ cls := "CertificateDesk$Digest", name := "withNumber", desc := "(II)I" } : Jvm.MethodName)) ∈ cd_tbl := tb_4 (List.mem_of_getElem? (i := 183) (by decide +kernel)) (by decide)
theorem ca_Aut_tokenDigest_48 {X : cd_E} : cd_CS X m_Aut_tokenDigest m_Dig_withNumber 48 2 := ⟨⟨by decide, kw_1_229, kw_1_11, ⟨by decide, by decide, by decide +kernel⟩, by decide, by decide⟩, kw_1_228, (Or.inl kw_4_183)⟩
theorem d_Aut_tokenDigest_23 : decode prog_3_method_3_code 23 = .ok (.bipush 47, 2) := by decide +kernel
theorem d_Aut_tokenDigest_25 : decode prog_3_method_3_code 25 = .ok (.invokestatic 44, 3) := by decide +kernel
theorem d_Aut_tokenDigest_28 : decode prog_3_method_3_code 28 = .ok (.istore_n 1, 1) := by decide +kernel
theorem d_Aut_tokenDigest_29 : decode prog_3_method_3_code 29 = .ok (.iload_n 1, 1) := by decide +kernel
theorem d_Aut_tokenDigest_30 : decode prog_3_method_3_code 30 = .ok (.aload_n 0, 1) := by decide +kernel
theorem d_Aut_tokenDigest_31 : decode prog_3_method_3_code 31 = .ok (.getfield 29, 3) := by decide +kernel
theorem fl_Aut_29 {X : cd_E} : cd_FL X "CertificateDesk$Authorization" 29 2 3 .int := cd_FL.of rfl rfl (by decide) kw_3_231 (Or.inl rfl)
theorem d_Aut_tokenDigest_34 : decode prog_3_method_3_code 34 = .ok (.invokestatic 48, 3) := by decide +kernel
theorem d_Aut_tokenDigest_37 : decode prog_3_method_3_code 37 = .ok (.ireturn, 1) := by decide +kernel
theorem g_Aut_tokenDigest {X : cd_E} {kc ks : Nat} {h : cd_H} {Q : Option Value → cd_H → Prop} {a0 : Nat} (F : cc_ok h) (H : (cd_k h a0 = some (.inl 2)) ∧ ((∃ b2 : Nat, (cd_r h a0 2) = some b2 ∧ (cd_W X m_Dig_withText 0 0 0 [some (.int 7), some (.ref b2), none, none] [] h (fun r4 h5 => ∃ x6 : Int32, r4 = some (.int x6) ∧ ((cc_ok h5) ∧ (cd_W X m_Dig_with 0 0 0 [some (.int x6), some (.int 47)] [] h5 (fun r8 h9 => ∃ x10 : Int32, r8 = some (.int x10) ∧ ((cc_ok h9) ∧ ((cd_k h9 a0 = some (.inl 2)) ∧ (cd_W X m_Dig_withNumber 0 0 0 [some (.int x10), some (.int (cd_i h9 a0 0)), none, none, none, none, none, none] [] h9 (fun r13 h14 => ∃ x15 : Int32, r13 = some (.int x15) ∧ ((cc_ok h14) ∧ (cd_W X m_Dig_with 0 0 0 [some (.int x15), some (.int 47)] [] h14 (fun r17 h18 => ∃ x19 : Int32, r17 = some (.int x19) ∧ ((cc_ok h18) ∧ ((cd_k h18 a0 = some (.inl 2)) ∧ (cd_W X m_Dig_withNumber 0 0 0 [some (.int x19), some (.int (cd_i h18 a0 3)), none, none, none, none, none, none] [] h18 (fun r22 h23 => ∃ x24 : Int32, r22 = some (.int x24) ∧ ((cc_ok h23) ∧ (Q (some (.int x24)) h23))))))))))))))))))))) : cd_W X m_Aut_tokenDigest kc ks 0 [some (.ref a0), none] [] h Q := by
  refine cd_bipush (v := 7) d_Aut_tokenDigest_0 (by decide) ?_
  refine cd_aload_n (i := 0) (v := .ref a0) d_Aut_tokenDigest_2 rfl rfl (cd_isr_ref _) ?_
  obtain ⟨c1, H⟩ := H
  refine cd_get (v := va_rf (cd_r h a0 2)) d_Aut_tokenDigest_3 fl_Aut_25 c1 rfl ?_
  obtain ⟨b2, e3, H⟩ := H
  rw [cd_rfs e3]
  refine cd_callS (kc := kc) (ks := ks) (kc' := 0) (ks' := 0) (As := [.int 7, .ref b2]) (S := []) d_Aut_tokenDigest_6 ca_Aut_tokenDigest_40 rfl (Nat.le_of_ble_eq_true rfl) (Nat.le_of_ble_eq_true rfl) ?_
  refine cd_W.mono (fun r4 h5 H => ?_) H
  obtain ⟨x6, rfl, H⟩ := H
  obtain ⟨F7, H⟩ := H
  show cd_W X m_Aut_tokenDigest kc ks 9 [some (.ref a0), none] [.int x6] h5 Q
  refine cd_bipush (v := 47) d_Aut_tokenDigest_9 (by decide) ?_
  refine cd_callS (kc := kc) (ks := ks) (kc' := 0) (ks' := 0) (As := [.int x6, .int 47]) (S := []) d_Aut_tokenDigest_11 ca_Aut_tokenDigest_44 rfl (Nat.le_of_ble_eq_true rfl) (Nat.le_of_ble_eq_true rfl) ?_
  refine cd_W.mono (fun r8 h9 H => ?_) H
  obtain ⟨x10, rfl, H⟩ := H
  obtain ⟨F11, H⟩ := H
  show cd_W X m_Aut_tokenDigest kc ks 14 [some (.ref a0), none] [.int x10] h9 Q
  refine cd_istore_n (i := 1) d_Aut_tokenDigest_14 rfl (by decide) ?_
  show cd_W X m_Aut_tokenDigest kc ks 15 [some (.ref a0), some (.int x10)] [] h9 Q
  refine cd_iload_n (i := 1) d_Aut_tokenDigest_15 rfl rfl ?_
  refine cd_aload_n (i := 0) (v := .ref a0) d_Aut_tokenDigest_16 rfl rfl (cd_isr_ref _) ?_
  obtain ⟨c12, H⟩ := H
  refine cd_get (v := .int (cd_i h9 a0 0)) d_Aut_tokenDigest_17 fl_Aut_18 c12 rfl ?_
  refine cd_callS (kc := kc) (ks := ks) (kc' := 0) (ks' := 0) (As := [.int x10, .int (cd_i h9 a0 0)]) (S := []) d_Aut_tokenDigest_20 ca_Aut_tokenDigest_48 rfl (Nat.le_of_ble_eq_true rfl) (Nat.le_of_ble_eq_true rfl) ?_
  refine cd_W.mono (fun r13 h14 H => ?_) H
  obtain ⟨x15, rfl, H⟩ := H
  obtain ⟨F16, H⟩ := H
  show cd_W X m_Aut_tokenDigest kc ks 23 [some (.ref a0), some (.int x10)] [.int x15] h14 Q
  refine cd_bipush (v := 47) d_Aut_tokenDigest_23 (by decide) ?_
  refine cd_callS (kc := kc) (ks := ks) (kc' := 0) (ks' := 0) (As := [.int x15, .int 47]) (S := []) d_Aut_tokenDigest_25 ca_Aut_tokenDigest_44 rfl (Nat.le_of_ble_eq_true rfl) (Nat.le_of_ble_eq_true rfl) ?_
  refine cd_W.mono (fun r17 h18 H => ?_) H
  obtain ⟨x19, rfl, H⟩ := H
  obtain ⟨F20, H⟩ := H
  show cd_W X m_Aut_tokenDigest kc ks 28 [some (.ref a0), some (.int x10)] [.int x19] h18 Q
  refine cd_istore_n (i := 1) d_Aut_tokenDigest_28 rfl (by decide) ?_
  show cd_W X m_Aut_tokenDigest kc ks 29 [some (.ref a0), some (.int x19)] [] h18 Q
  refine cd_iload_n (i := 1) d_Aut_tokenDigest_29 rfl rfl ?_
  refine cd_aload_n (i := 0) (v := .ref a0) d_Aut_tokenDigest_30 rfl rfl (cd_isr_ref _) ?_
  obtain ⟨c21, H⟩ := H
  refine cd_get (v := .int (cd_i h18 a0 3)) d_Aut_tokenDigest_31 fl_Aut_29 c21 rfl ?_
  refine cd_callS (kc := kc) (ks := ks) (kc' := 0) (ks' := 0) (As := [.int x19, .int (cd_i h18 a0 3)]) (S := []) d_Aut_tokenDigest_34 ca_Aut_tokenDigest_48 rfl (Nat.le_of_ble_eq_true rfl) (Nat.le_of_ble_eq_true rfl) ?_
  refine cd_W.mono (fun r22 h23 H => ?_) H
  obtain ⟨x24, rfl, H⟩ := H
  obtain ⟨F25, H⟩ := H
  show cd_W X m_Aut_tokenDigest kc ks 37 [some (.ref a0), some (.int x19)] [.int x24] h23 Q
  exact cd_iret d_Aut_tokenDigest_37 rfl rfl H

abbrev m_Aut_proof : cd_M := (⟨"CertificateDesk$Authorization", "proof", "(LCertificateDesk$Key;)I"⟩, prog_3_method_4_code, 3, some .int, 29, 635)
theorem d_Aut_proof_0 : decode prog_3_method_4_code 0 = .ok (.bipush 7, 2) := by decide +kernel
theorem d_Aut_proof_2 : decode prog_3_method_4_code 2 = .ok (.aload_n 0, 1) := by decide +kernel
theorem d_Aut_proof_3 : decode prog_3_method_4_code 3 = .ok (.invokevirtual 51, 3) := by decide +kernel
theorem kw_4_173 : (Jvm.Cond.methodLink "CertificateDesk$Authorization" (51 : Nat) ({ cls := "CertificateDesk$Authorization", name := "tokenDigest", desc := "()I" } : Jvm.MethodName)) ∈ cd_tbl := tb_4 (List.mem_of_getElem? (i := 173) (by decide +kernel)) (by decide)
theorem kw_4_176 : (Jvm.Cond.code ({ cls := "CertificateDesk$Authorization", name := "tokenDigest", desc := "()I" } : Jvm.MethodName) prog_3_method_3_code (2 : Nat) (Option.some Jvm.ClassFile.FieldType.int)) ∈ cd_tbl := tb_4 (List.mem_of_getElem? (i := 176) (by decide +kernel)) (by decide)
theorem kw_4_174 : (Jvm.Cond.instanceMethod ({ cls := "CertificateDesk$Authorization", name := "tokenDigest", desc := "()I" } : Jvm.MethodName)) ∈ cd_tbl := tb_4 (List.mem_of_getElem? (i := 174) (by decide +kernel)) (by decide)
theorem kw_4_175 : (Jvm.Cond.selects "CertificateDesk$Authorization" ({ cls := "CertificateDesk$Authorization", name := "tokenDigest", desc := "()I" } : Jvm.MethodName) ({ cls := "CertificateDesk$Authorization", name := "tokenDigest", desc := "()I" } : Jvm.MethodName)) ∈ cd_tbl := tb_4 (List.mem_of_getElem? (i := 175) (by decide +kernel)) (by decide)
theorem ca_Aut_proof_51 {X : cd_E} : cd_CV X m_Aut_proof m_Aut_tokenDigest 51 0 2 := ⟨⟨by decide, kw_4_176, kw_1_26, ⟨by decide, by decide, by decide +kernel⟩, by decide, by decide⟩, ⟨_, rfl, rfl⟩, kw_4_174, kw_4_175, (Or.inl kw_4_173)⟩
theorem d_Aut_proof_6 : decode prog_3_method_4_code 6 = .ok (.invokestatic 48, 3) := by decide +kernel
theorem ca_Aut_proof_48 {X : cd_E} : cd_CS X m_Aut_proof m_Dig_withNumber 48 2 := ⟨⟨by decide, kw_1_229, kw_1_11, ⟨by decide, by decide, by decide +kernel⟩, by decide, by decide⟩, kw_1_228, (Or.inl kw_4_183)⟩
theorem d_Aut_proof_9 : decode prog_3_method_4_code 9 = .ok (.bipush 46, 2) := by decide +kernel
theorem d_Aut_proof_11 : decode prog_3_method_4_code 11 = .ok (.invokestatic 44, 3) := by decide +kernel
theorem ca_Aut_proof_44 {X : cd_E} : cd_CS X m_Aut_proof m_Dig_with 44 2 := ⟨⟨by decide, kw_1_223, kw_1_11, ⟨by decide, by decide, by decide +kernel⟩, by decide, by decide⟩, kw_1_222, (Or.inl kw_4_182)⟩
theorem d_Aut_proof_14 : decode prog_3_method_4_code 14 = .ok (.istore_n 2, 1) := by decide +kernel
theorem d_Aut_proof_15 : decode prog_3_method_4_code 15 = .ok (.iload_n 2, 1) := by decide +kernel
theorem d_Aut_proof_16 : decode prog_3_method_4_code 16 = .ok (.aload_n 1, 1) := by decide +kernel
theorem d_Aut_proof_17 : decode prog_3_method_4_code 17 = .ok (.invokevirtual 55, 3) := by decide +kernel
theorem kw_4_184 : (Jvm.Cond.methodLink "CertificateDesk$Authorization" (55 : Nat) ({ cls := "CertificateDesk$Key", name := "thumbprint", desc := "()I" } : Jvm.MethodName)) ∈ cd_tbl := tb_4 (List.mem_of_getElem? (i := 184) (by decide +kernel)) (by decide)
theorem kw_4_187 : (Jvm.Cond.code ({ cls := "CertificateDesk$Key", name := "thumbprint", desc := "()I" } : Jvm.MethodName) prog_7_method_2_code (2 : Nat) (Option.some Jvm.ClassFile.FieldType.int)) ∈ cd_tbl := tb_4 (List.mem_of_getElem? (i := 187) (by decide +kernel)) (by decide)
theorem kw_4_185 : (Jvm.Cond.instanceMethod ({ cls := "CertificateDesk$Key", name := "thumbprint", desc := "()I" } : Jvm.MethodName)) ∈ cd_tbl := tb_4 (List.mem_of_getElem? (i := 185) (by decide +kernel)) (by decide)
theorem kw_4_186 : (Jvm.Cond.selects "CertificateDesk$Key" ({ cls := "CertificateDesk$Key", name := "thumbprint", desc := "()I" } : Jvm.MethodName) ({ cls := "CertificateDesk$Key", name := "thumbprint", desc := "()I" } : Jvm.MethodName)) ∈ cd_tbl := tb_4 (List.mem_of_getElem? (i := 186) (by decide +kernel)) (by decide)
theorem ca_Aut_proof_55 {X : cd_E} : cd_CV X m_Aut_proof m_Key_thumbprint 55 0 4 := ⟨⟨by decide, kw_4_187, kw_1_2, ⟨by decide, by decide, by decide +kernel⟩, by decide, by decide⟩, ⟨_, rfl, rfl⟩, kw_4_185, kw_4_186, (Or.inl kw_4_184)⟩
theorem d_Aut_proof_20 : decode prog_3_method_4_code 20 = .ok (.invokestatic 48, 3) := by decide +kernel
theorem d_Aut_proof_23 : decode prog_3_method_4_code 23 = .ok (.ireturn, 1) := by decide +kernel
theorem g_Aut_proof {X : cd_E} {kc ks : Nat} {h : cd_H} {Q : Option Value → cd_H → Prop} {a0 : Nat} {p1 : Nat} (F : cc_ok h) (H : (cd_k h a0 = some (.inl 2)) ∧ (cd_W X m_Aut_tokenDigest 0 0 0 [some (.ref a0), none] [] h (fun r2 h3 => ∃ x4 : Int32, r2 = some (.int x4) ∧ ((cc_ok h3) ∧ (cd_W X m_Dig_withNumber 0 0 0 [some (.int 7), some (.int x4), none, none, none, none, none, none] [] h3 (fun r6 h7 => ∃ x8 : Int32, r6 = some (.int x8) ∧ ((cc_ok h7) ∧ (cd_W X m_Dig_with 0 0 0 [some (.int x8), some (.int 46)] [] h7 (fun r10 h11 => ∃ x12 : Int32, r10 = some (.int x12) ∧ ((cc_ok h11) ∧ ((cd_k h11 p1 = some (.inl 4)) ∧ (cd_W X m_Key_thumbprint 0 0 0 [some (.ref p1), none] [] h11 (fun r15 h16 => ∃ x17 : Int32, r15 = some (.int x17) ∧ ((cc_ok h16) ∧ (cd_W X m_Dig_withNumber 0 0 0 [some (.int x12), some (.int x17), none, none, none, none, none, none] [] h16 (fun r19 h20 => ∃ x21 : Int32, r19 = some (.int x21) ∧ ((cc_ok h20) ∧ (Q (some (.int x21)) h20)))))))))))))))))) : cd_W X m_Aut_proof kc ks 0 [some (.ref a0), some (.ref p1), none] [] h Q := by
  refine cd_bipush (v := 7) d_Aut_proof_0 (by decide) ?_
  refine cd_aload_n (i := 0) (v := .ref a0) d_Aut_proof_2 rfl rfl (cd_isr_ref _) ?_
  obtain ⟨c1, H⟩ := H
  refine cd_callV (kc := kc) (ks := ks) (kc' := 0) (ks' := 0) (As := []) (S := [.int 7]) d_Aut_proof_3 ca_Aut_proof_51 c1 rfl (Nat.le_of_ble_eq_true rfl) (Nat.le_of_ble_eq_true rfl) ?_
  refine cd_W.mono (fun r2 h3 H => ?_) H
  obtain ⟨x4, rfl, H⟩ := H
  obtain ⟨F5, H⟩ := H
  show cd_W X m_Aut_proof kc ks 6 [some (.ref a0), some (.ref p1), none] [.int x4, .int 7] h3 Q
  refine cd_callS (kc := kc) (ks := ks) (kc' := 0) (ks' := 0) (As := [.int 7, .int x4]) (S := []) d_Aut_proof_6 ca_Aut_proof_48 rfl (Nat.le_of_ble_eq_true rfl) (Nat.le_of_ble_eq_true rfl) ?_
  refine cd_W.mono (fun r6 h7 H => ?_) H
  obtain ⟨x8, rfl, H⟩ := H
  obtain ⟨F9, H⟩ := H
  show cd_W X m_Aut_proof kc ks 9 [some (.ref a0), some (.ref p1), none] [.int x8] h7 Q
  refine cd_bipush (v := 46) d_Aut_proof_9 (by decide) ?_
  refine cd_callS (kc := kc) (ks := ks) (kc' := 0) (ks' := 0) (As := [.int x8, .int 46]) (S := []) d_Aut_proof_11 ca_Aut_proof_44 rfl (Nat.le_of_ble_eq_true rfl) (Nat.le_of_ble_eq_true rfl) ?_
  refine cd_W.mono (fun r10 h11 H => ?_) H
  obtain ⟨x12, rfl, H⟩ := H
  obtain ⟨F13, H⟩ := H
  show cd_W X m_Aut_proof kc ks 14 [some (.ref a0), some (.ref p1), none] [.int x12] h11 Q
  refine cd_istore_n (i := 2) d_Aut_proof_14 rfl (by decide) ?_
  show cd_W X m_Aut_proof kc ks 15 [some (.ref a0), some (.ref p1), some (.int x12)] [] h11 Q
  refine cd_iload_n (i := 2) d_Aut_proof_15 rfl rfl ?_
  refine cd_aload_n (i := 1) (v := .ref p1) d_Aut_proof_16 rfl rfl (cd_isr_ref _) ?_
  obtain ⟨c14, H⟩ := H
  refine cd_callV (kc := kc) (ks := ks) (kc' := 0) (ks' := 0) (As := []) (S := [.int x12]) d_Aut_proof_17 ca_Aut_proof_55 c14 rfl (Nat.le_of_ble_eq_true rfl) (Nat.le_of_ble_eq_true rfl) ?_
  refine cd_W.mono (fun r15 h16 H => ?_) H
  obtain ⟨x17, rfl, H⟩ := H
  obtain ⟨F18, H⟩ := H
  show cd_W X m_Aut_proof kc ks 20 [some (.ref a0), some (.ref p1), some (.int x12)] [.int x17, .int x12] h16 Q
  refine cd_callS (kc := kc) (ks := ks) (kc' := 0) (ks' := 0) (As := [.int x12, .int x17]) (S := []) d_Aut_proof_20 ca_Aut_proof_48 rfl (Nat.le_of_ble_eq_true rfl) (Nat.le_of_ble_eq_true rfl) ?_
  refine cd_W.mono (fun r19 h20 H => ?_) H
  obtain ⟨x21, rfl, H⟩ := H
  obtain ⟨F22, H⟩ := H
  show cd_W X m_Aut_proof kc ks 23 [some (.ref a0), some (.ref p1), some (.int x12)] [.int x21] h20 Q
  exact cd_iret d_Aut_proof_23 rfl rfl H

abbrev m_Ord_init : cd_M := (⟨"CertificateDesk$Order", "<init>", "(LCertificateDesk$Account;I)V"⟩, prog_11_method_1_code, 3, none, 4, 80)
theorem d_Ord_init_0 : decode prog_11_method_1_code 0 = .ok (.aload_n 0, 1) := by decide +kernel
theorem d_Ord_init_1 : decode prog_11_method_1_code 1 = .ok (.invokespecial 3, 3) := by decide +kernel
theorem kw_3_37 : (Jvm.Cond.methodLink "CertificateDesk$Order" (3 : Nat) ({ cls := "java/lang/Object", name := "<init>", desc := "()V" } : Jvm.MethodName)) ∈ cd_tbl := tb_3 (List.mem_of_getElem? (i := 37) (by decide +kernel)) (by decide)
theorem d_Ord_init_4 : decode prog_11_method_1_code 4 = .ok (.aload_n 0, 1) := by decide +kernel
theorem d_Ord_init_5 : decode prog_11_method_1_code 5 = .ok (.iconst (-1), 1) := by decide +kernel
theorem d_Ord_init_6 : decode prog_11_method_1_code 6 = .ok (.putfield 9, 3) := by decide +kernel
theorem kw_3_46 : (Jvm.Cond.fieldLink "CertificateDesk$Order" (9 : Nat) "CertificateDesk$Order" "certificate" "I") ∈ cd_tbl := tb_3 (List.mem_of_getElem? (i := 46) (by decide +kernel)) (by decide)
theorem kw_3_48 : (Jvm.Cond.laysFinal "CertificateDesk$Order" "CertificateDesk$Order" "owner" "LCertificateDesk$Account;") ∈ cd_tbl := tb_3 (List.mem_of_getElem? (i := 48) (by decide +kernel)) (by decide)
theorem kw_3_50 : (Jvm.Cond.laysFinal "CertificateDesk$Order" "CertificateDesk$Order" "made" "I") ∈ cd_tbl := tb_3 (List.mem_of_getElem? (i := 50) (by decide +kernel)) (by decide)
theorem kw_3_52 : (Jvm.Cond.laysFinal "CertificateDesk$Order" "CertificateDesk$Order" "parts" "Ljava/util/ArrayList;") ∈ cd_tbl := tb_3 (List.mem_of_getElem? (i := 52) (by decide +kernel)) (by decide)
theorem kw_3_54 : (Jvm.Cond.lays "CertificateDesk$Order" "CertificateDesk$Order" "certificate" "I") ∈ cd_tbl := tb_3 (List.mem_of_getElem? (i := 54) (by decide +kernel)) (by decide)
theorem kw_3_33 : (Jvm.Cond.instantiable "CertificateDesk$Order" (4 : Nat)) ∈ cd_tbl := tb_3 (List.mem_of_getElem? (i := 33) (by decide +kernel)) (by decide)
theorem kw_1_23 : (Jvm.Cond.initialized "CertificateDesk$Order") ∈ cd_tbl := tb_1 (List.mem_of_getElem? (i := 23) (by decide +kernel)) (by decide)
theorem cl_8 : cd_CL 8 4 := ⟨_, rfl, List.forall_mem_cons.mpr ⟨kw_3_48, List.forall_mem_cons.mpr ⟨kw_3_50, List.forall_mem_cons.mpr ⟨kw_3_52, List.forall_mem_cons.mpr ⟨kw_3_54, fun _ h => absurd h List.not_mem_nil⟩⟩⟩⟩, by decide +kernel, by decide +kernel, kw_3_33, kw_1_23, by decide +kernel⟩
theorem fp_Ord_init_9 {X : cd_E} : cd_FP X m_Ord_init 9 8 3 .int := cd_FP.of cl_8 rfl rfl (by decide) kw_3_46 (Or.inl rfl) (Or.inl rfl)
theorem d_Ord_init_9 : decode prog_11_method_1_code 9 = .ok (.aload_n 0, 1) := by decide +kernel
theorem d_Ord_init_10 : decode prog_11_method_1_code 10 = .ok (.aload_n 1, 1) := by decide +kernel
theorem d_Ord_init_11 : decode prog_11_method_1_code 11 = .ok (.putfield 15, 3) := by decide +kernel
theorem kw_3_40 : (Jvm.Cond.fieldLink "CertificateDesk$Order" (15 : Nat) "CertificateDesk$Order" "owner" "LCertificateDesk$Account;") ∈ cd_tbl := tb_3 (List.mem_of_getElem? (i := 40) (by decide +kernel)) (by decide)
theorem fp_Ord_init_15 {X : cd_E} : cd_FP X m_Ord_init 15 8 0 (.object "CertificateDesk$Account") := cd_FP.of cl_8 rfl rfl (by decide) kw_3_40 (Or.inl rfl) (Or.inr ⟨rfl, rfl, rfl⟩)
theorem d_Ord_init_14 : decode prog_11_method_1_code 14 = .ok (.aload_n 0, 1) := by decide +kernel
theorem d_Ord_init_15 : decode prog_11_method_1_code 15 = .ok (.iload_n 2, 1) := by decide +kernel
theorem d_Ord_init_16 : decode prog_11_method_1_code 16 = .ok (.putfield 19, 3) := by decide +kernel
theorem kw_3_42 : (Jvm.Cond.fieldLink "CertificateDesk$Order" (19 : Nat) "CertificateDesk$Order" "made" "I") ∈ cd_tbl := tb_3 (List.mem_of_getElem? (i := 42) (by decide +kernel)) (by decide)
theorem fp_Ord_init_19 {X : cd_E} : cd_FP X m_Ord_init 19 8 1 .int := cd_FP.of cl_8 rfl rfl (by decide) kw_3_42 (Or.inl rfl) (Or.inr ⟨rfl, rfl, rfl⟩)
theorem d_Ord_init_19 : decode prog_11_method_1_code 19 = .ok (.aload_n 0, 1) := by decide +kernel
theorem d_Ord_init_20 : decode prog_11_method_1_code 20 = .ok (.new 22, 3) := by decide +kernel
theorem kw_1_135 : (Jvm.Cond.lays "java/util/ArrayList" "java/util/ArrayList" "elementData" "[Ljava/lang/Object;") ∈ cd_tbl := tb_1 (List.mem_of_getElem? (i := 135) (by decide +kernel)) (by decide)
theorem kw_1_137 : (Jvm.Cond.lays "java/util/ArrayList" "java/util/ArrayList" "size" "I") ∈ cd_tbl := tb_1 (List.mem_of_getElem? (i := 137) (by decide +kernel)) (by decide)
theorem kw_1_139 : (Jvm.Cond.lays "java/util/ArrayList" "java/util/AbstractList" "modCount" "I") ∈ cd_tbl := tb_1 (List.mem_of_getElem? (i := 139) (by decide +kernel)) (by decide)
theorem kw_1_117 : (Jvm.Cond.instantiable "java/util/ArrayList" (3 : Nat)) ∈ cd_tbl := tb_1 (List.mem_of_getElem? (i := 117) (by decide +kernel)) (by decide)
theorem kw_1_9 : (Jvm.Cond.initialized "java/util/ArrayList") ∈ cd_tbl := tb_1 (List.mem_of_getElem? (i := 9) (by decide +kernel)) (by decide)
theorem cl_12 : cd_CL 12 3 := ⟨_, rfl, List.forall_mem_cons.mpr ⟨kw_1_135, List.forall_mem_cons.mpr ⟨kw_1_137, List.forall_mem_cons.mpr ⟨kw_1_139, fun _ h => absurd h List.not_mem_nil⟩⟩⟩, by decide +kernel, by decide +kernel, kw_1_117, kw_1_9, by decide +kernel⟩
theorem kw_3_38 : (Jvm.Cond.classLink "CertificateDesk$Order" (22 : Nat) "java/util/ArrayList") ∈ cd_tbl := tb_3 (List.mem_of_getElem? (i := 38) (by decide +kernel)) (by decide)
theorem nc_Ord_22 : cd_NC "CertificateDesk$Order" 22 12 3 := cd_NC.of cl_12 rfl kw_3_38
theorem d_Ord_init_23 : decode prog_11_method_1_code 23 = .ok (.dup, 1) := by decide +kernel
theorem d_Ord_init_24 : decode prog_11_method_1_code 24 = .ok (.invokespecial 24, 3) := by decide +kernel
abbrev m_AL_init_V : cd_M := (⟨"java/util/ArrayList", "<init>", "()V"⟩, prog_28_method_2_code, 1, none, 3, 60)
theorem kw_3_39 : (Jvm.Cond.methodLink "CertificateDesk$Order" (24 : Nat) ({ cls := "java/util/ArrayList", name := "<init>", desc := "()V" } : Jvm.MethodName)) ∈ cd_tbl := tb_3 (List.mem_of_getElem? (i := 39) (by decide +kernel)) (by decide)
theorem kw_1_120 : (Jvm.Cond.code ({ cls := "java/util/ArrayList", name := "<init>", desc := "()V" } : Jvm.MethodName) prog_28_method_2_code (1 : Nat) (Option.none : Option Jvm.ClassFile.FieldType)) ∈ cd_tbl := tb_1 (List.mem_of_getElem? (i := 120) (by decide +kernel)) (by decide)
theorem kw_1_119 : (Jvm.Cond.instanceMethod ({ cls := "java/util/ArrayList", name := "<init>", desc := "()V" } : Jvm.MethodName)) ∈ cd_tbl := tb_1 (List.mem_of_getElem? (i := 119) (by decide +kernel)) (by decide)
theorem ca_Ord_init_24 {X : cd_E} : cd_CI X m_Ord_init m_AL_init_V 24 0 := ⟨⟨by decide, kw_1_120, kw_1_9, ⟨by decide, by decide, by decide +kernel⟩, by decide, by decide⟩, rfl, rfl, kw_1_119, (Or.inl kw_3_39)⟩
theorem d_Ord_init_27 : decode prog_11_method_1_code 27 = .ok (.putfield 25, 3) := by decide +kernel
theorem kw_3_44 : (Jvm.Cond.fieldLink "CertificateDesk$Order" (25 : Nat) "CertificateDesk$Order" "parts" "Ljava/util/ArrayList;") ∈ cd_tbl := tb_3 (List.mem_of_getElem? (i := 44) (by decide +kernel)) (by decide)
theorem fp_Ord_init_25 {X : cd_E} : cd_FP X m_Ord_init 25 8 2 (.object "java/util/ArrayList") := cd_FP.of cl_8 rfl rfl (by decide) kw_3_44 (Or.inl rfl) (Or.inr ⟨rfl, rfl, rfl⟩)
theorem d_Ord_init_30 : decode prog_11_method_1_code 30 = .ok (.return_, 1) := by decide +kernel
theorem g_Ord_init {X : cd_E} {kc ks : Nat} {h : cd_H} {Q : Option Value → cd_H → Prop} {a0 : Nat} {p1 : Nat} {p2 : Int32} (H : (cd_k h a0 = some (.inl 8)) ∧ ((64 ≤ a0) ∧ (cd_W X m_AL_init_V 0 0 0 [some (.ref (cd_n (cd_si (cd_sr (cd_si h a0 3 (-1)) a0 0 (some p1)) a0 1 p2)))] [] (cd_new (cd_si (cd_sr (cd_si h a0 3 (-1)) a0 0 (some p1)) a0 1 p2) (.inl 12)) (fun r3 h4 => (r3 = none) ∧ ((cd_k h4 a0 = some (.inl 8)) ∧ (Q none (cd_sr h4 a0 2 (some (cd_n (cd_si (cd_sr (cd_si h a0 3 (-1)) a0 0 (some p1)) a0 1 p2)))))))))) : cd_W X m_Ord_init (kc + 1) (ks + 3) 0 [some (.ref a0), some (.ref p1), some (.int p2)] [] h Q := by
  refine cd_aload_n (i := 0) (v := .ref a0) d_Ord_init_0 rfl rfl (cd_isr_ref _) ?_
  refine cd_objInit d_Ord_init_1 kw_3_37 kw_1_35 kw_1_36 (by decide) (by decide) (Nat.le_of_ble_eq_true rfl) ?_
  refine cd_aload_n (i := 0) (v := .ref a0) d_Ord_init_4 rfl rfl (cd_isr_ref _) ?_
  refine cd_iconst (v := (-1)) d_Ord_init_5 (by decide) ?_
  obtain ⟨c1, H⟩ := H
  obtain ⟨c2, H⟩ := H
  refine cd_putI d_Ord_init_6 fp_Ord_init_9 (fun _ _ _ => rfl) c1 c2 rfl rfl ?_
  refine cd_aload_n (i := 0) (v := .ref a0) d_Ord_init_9 rfl rfl (cd_isr_ref _) ?_
  refine cd_aload_n (i := 1) (v := .ref p1) d_Ord_init_10 rfl rfl (cd_isr_ref _) ?_
  refine cd_putR (o := (some p1)) d_Ord_init_11 fp_Ord_init_15 (Or.inl ⟨_, rfl⟩) c1 c2 ?_
  refine cd_aload_n (i := 0) (v := .ref a0) d_Ord_init_14 rfl rfl (cd_isr_ref _) ?_
  refine cd_iload_n (i := 2) d_Ord_init_15 rfl rfl ?_
  refine cd_putI d_Ord_init_16 fp_Ord_init_19 (fun _ _ _ => rfl) c1 c2 rfl rfl ?_
  refine cd_aload_n (i := 0) (v := .ref a0) d_Ord_init_19 rfl rfl (cd_isr_ref _) ?_
  refine cd_newo (kc := (kc + 0)) (ks := (ks + 0)) d_Ord_init_20 nc_Ord_22 ?_
  refine cd_dup d_Ord_init_23 rfl ?_
  refine cd_callI (kc := (kc + 0)) (ks := (ks + 0)) (kc' := 0) (ks' := 0) (As := []) (S := [.ref (cd_n (cd_si (cd_sr (cd_si h a0 3 (-1)) a0 0 (some p1)) a0 1 p2)), .ref a0]) d_Ord_init_24 ca_Ord_init_24 rfl (Nat.le_of_ble_eq_true rfl) (Nat.le_of_ble_eq_true rfl) ?_
  refine cd_W.mono (fun r3 h4 H => ?_) H
  obtain ⟨rfl, H⟩ := H
  show cd_W X m_Ord_init (kc + 0) (ks + 0) 27 [some (.ref a0), some (.ref p1), some (.int p2)] [.ref (cd_n (cd_si (cd_sr (cd_si h a0 3 (-1)) a0 0 (some p1)) a0 1 p2)), .ref a0] h4 Q
  obtain ⟨c5, H⟩ := H
  refine cd_putR (o := (some (cd_n (cd_si (cd_sr (cd_si h a0 3 (-1)) a0 0 (some p1)) a0 1 p2)))) d_Ord_init_27 fp_Ord_init_25 (Or.inl ⟨_, rfl⟩) c5 c2 ?_
  exact cd_vret d_Ord_init_30 rfl H

abbrev m_Cer_init : cd_M := (⟨"CertificateDesk$Certificate", "<init>", "(LCertificateDesk$Account;ILCertificateDesk$Octets;)V"⟩, prog_4_method_1_code, 4, none, 1, 20)
theorem d_Cer_init_0 : decode prog_4_method_1_code 0 = .ok (.aload_n 0, 1) := by decide +kernel
theorem d_Cer_init_1 : decode prog_4_method_1_code 1 = .ok (.invokespecial 3, 3) := by decide +kernel
theorem kw_4_120 : (Jvm.Cond.methodLink "CertificateDesk$Certificate" (3 : Nat) ({ cls := "java/lang/Object", name := "<init>", desc := "()V" } : Jvm.MethodName)) ∈ cd_tbl := tb_4 (List.mem_of_getElem? (i := 120) (by decide +kernel)) (by decide)
theorem d_Cer_init_4 : decode prog_4_method_1_code 4 = .ok (.aload_n 0, 1) := by decide +kernel
theorem d_Cer_init_5 : decode prog_4_method_1_code 5 = .ok (.iconst (-1), 1) := by decide +kernel
theorem d_Cer_init_6 : decode prog_4_method_1_code 6 = .ok (.putfield 9, 3) := by decide +kernel
theorem kw_4_127 : (Jvm.Cond.fieldLink "CertificateDesk$Certificate" (9 : Nat) "CertificateDesk$Certificate" "reason" "I") ∈ cd_tbl := tb_4 (List.mem_of_getElem? (i := 127) (by decide +kernel)) (by decide)
theorem kw_4_129 : (Jvm.Cond.laysFinal "CertificateDesk$Certificate" "CertificateDesk$Certificate" "owner" "LCertificateDesk$Account;") ∈ cd_tbl := tb_4 (List.mem_of_getElem? (i := 129) (by decide +kernel)) (by decide)
theorem kw_4_131 : (Jvm.Cond.laysFinal "CertificateDesk$Certificate" "CertificateDesk$Certificate" "made" "I") ∈ cd_tbl := tb_4 (List.mem_of_getElem? (i := 131) (by decide +kernel)) (by decide)
theorem kw_4_133 : (Jvm.Cond.laysFinal "CertificateDesk$Certificate" "CertificateDesk$Certificate" "octets" "LCertificateDesk$Octets;") ∈ cd_tbl := tb_4 (List.mem_of_getElem? (i := 133) (by decide +kernel)) (by decide)
theorem kw_4_135 : (Jvm.Cond.lays "CertificateDesk$Certificate" "CertificateDesk$Certificate" "reason" "I") ∈ cd_tbl := tb_4 (List.mem_of_getElem? (i := 135) (by decide +kernel)) (by decide)
theorem kw_4_59 : (Jvm.Cond.instantiable "CertificateDesk$Certificate" (4 : Nat)) ∈ cd_tbl := tb_4 (List.mem_of_getElem? (i := 59) (by decide +kernel)) (by decide)
theorem kw_1_27 : (Jvm.Cond.initialized "CertificateDesk$Certificate") ∈ cd_tbl := tb_1 (List.mem_of_getElem? (i := 27) (by decide +kernel)) (by decide)
theorem cl_3 : cd_CL 3 4 := ⟨_, rfl, List.forall_mem_cons.mpr ⟨kw_4_129, List.forall_mem_cons.mpr ⟨kw_4_131, List.forall_mem_cons.mpr ⟨kw_4_133, List.forall_mem_cons.mpr ⟨kw_4_135, fun _ h => absurd h List.not_mem_nil⟩⟩⟩⟩, by decide +kernel, by decide +kernel, kw_4_59, kw_1_27, by decide +kernel⟩
theorem fp_Cer_init_9 {X : cd_E} : cd_FP X m_Cer_init 9 3 3 .int := cd_FP.of cl_3 rfl rfl (by decide) kw_4_127 (Or.inl rfl) (Or.inl rfl)
theorem d_Cer_init_9 : decode prog_4_method_1_code 9 = .ok (.aload_n 0, 1) := by decide +kernel
theorem d_Cer_init_10 : decode prog_4_method_1_code 10 = .ok (.aload_n 1, 1) := by decide +kernel
theorem d_Cer_init_11 : decode prog_4_method_1_code 11 = .ok (.putfield 15, 3) := by decide +kernel
theorem kw_4_121 : (Jvm.Cond.fieldLink "CertificateDesk$Certificate" (15 : Nat) "CertificateDesk$Certificate" "owner" "LCertificateDesk$Account;") ∈ cd_tbl := tb_4 (List.mem_of_getElem? (i := 121) (by decide +kernel)) (by decide)
theorem fp_Cer_init_15 {X : cd_E} : cd_FP X m_Cer_init 15 3 0 (.object "CertificateDesk$Account") := cd_FP.of cl_3 rfl rfl (by decide) kw_4_121 (Or.inl rfl) (Or.inr ⟨rfl, rfl, rfl⟩)
theorem d_Cer_init_14 : decode prog_4_method_1_code 14 = .ok (.aload_n 0, 1) := by decide +kernel
theorem d_Cer_init_15 : decode prog_4_method_1_code 15 = .ok (.iload_n 2, 1) := by decide +kernel
theorem d_Cer_init_16 : decode prog_4_method_1_code 16 = .ok (.putfield 19, 3) := by decide +kernel
theorem kw_4_123 : (Jvm.Cond.fieldLink "CertificateDesk$Certificate" (19 : Nat) "CertificateDesk$Certificate" "made" "I") ∈ cd_tbl := tb_4 (List.mem_of_getElem? (i := 123) (by decide +kernel)) (by decide)
theorem fp_Cer_init_19 {X : cd_E} : cd_FP X m_Cer_init 19 3 1 .int := cd_FP.of cl_3 rfl rfl (by decide) kw_4_123 (Or.inl rfl) (Or.inr ⟨rfl, rfl, rfl⟩)
theorem d_Cer_init_19 : decode prog_4_method_1_code 19 = .ok (.aload_n 0, 1) := by decide +kernel
theorem d_Cer_init_20 : decode prog_4_method_1_code 20 = .ok (.aload_n 3, 1) := by decide +kernel
theorem d_Cer_init_21 : decode prog_4_method_1_code 21 = .ok (.putfield 22, 3) := by decide +kernel
theorem kw_4_125 : (Jvm.Cond.fieldLink "CertificateDesk$Certificate" (22 : Nat) "CertificateDesk$Certificate" "octets" "LCertificateDesk$Octets;") ∈ cd_tbl := tb_4 (List.mem_of_getElem? (i := 125) (by decide +kernel)) (by decide)
theorem fp_Cer_init_22 {X : cd_E} : cd_FP X m_Cer_init 22 3 2 (.object "CertificateDesk$Octets") := cd_FP.of cl_3 rfl rfl (by decide) kw_4_125 (Or.inl rfl) (Or.inr ⟨rfl, rfl, rfl⟩)
theorem d_Cer_init_24 : decode prog_4_method_1_code 24 = .ok (.return_, 1) := by decide +kernel
theorem g_Cer_init {X : cd_E} {kc ks : Nat} {h : cd_H} {Q : Option Value → cd_H → Prop} {a0 : Nat} {p1 : Nat} {p2 : Int32} {p3 : Nat} (H : (cd_k h a0 = some (.inl 3)) ∧ ((64 ≤ a0) ∧ (Q none (cd_sr (cd_si (cd_sr (cd_si h a0 3 (-1)) a0 0 (some p1)) a0 1 p2) a0 2 (some p3))))) : cd_W X m_Cer_init kc ks 0 [some (.ref a0), some (.ref p1), some (.int p2), some (.ref p3)] [] h Q := by
  refine cd_aload_n (i := 0) (v := .ref a0) d_Cer_init_0 rfl rfl (cd_isr_ref _) ?_
  refine cd_objInit d_Cer_init_1 kw_4_120 kw_1_35 kw_1_36 (by decide) (by decide) (Nat.le_of_ble_eq_true rfl) ?_
  refine cd_aload_n (i := 0) (v := .ref a0) d_Cer_init_4 rfl rfl (cd_isr_ref _) ?_
  refine cd_iconst (v := (-1)) d_Cer_init_5 (by decide) ?_
  obtain ⟨c1, H⟩ := H
  obtain ⟨c2, H⟩ := H
  refine cd_putI d_Cer_init_6 fp_Cer_init_9 (fun _ _ _ => rfl) c1 c2 rfl rfl ?_
  refine cd_aload_n (i := 0) (v := .ref a0) d_Cer_init_9 rfl rfl (cd_isr_ref _) ?_
  refine cd_aload_n (i := 1) (v := .ref p1) d_Cer_init_10 rfl rfl (cd_isr_ref _) ?_
  refine cd_putR (o := (some p1)) d_Cer_init_11 fp_Cer_init_15 (Or.inl ⟨_, rfl⟩) c1 c2 ?_
  refine cd_aload_n (i := 0) (v := .ref a0) d_Cer_init_14 rfl rfl (cd_isr_ref _) ?_
  refine cd_iload_n (i := 2) d_Cer_init_15 rfl rfl ?_
  refine cd_putI d_Cer_init_16 fp_Cer_init_19 (fun _ _ _ => rfl) c1 c2 rfl rfl ?_
  refine cd_aload_n (i := 0) (v := .ref a0) d_Cer_init_19 rfl rfl (cd_isr_ref _) ?_
  refine cd_aload_n (i := 3) (v := .ref p3) d_Cer_init_20 rfl rfl (cd_isr_ref _) ?_
  refine cd_putR (o := (some p3)) d_Cer_init_21 fp_Cer_init_22 (Or.inl ⟨_, rfl⟩) c1 c2 ?_
  exact cd_vret d_Cer_init_24 rfl H

abbrev m_Oct_init : cd_M := (⟨"CertificateDesk$Octets", "<init>", "()V"⟩, prog_10_method_1_code, 1, none, 1, 20)
theorem d_Oct_init_0 : decode prog_10_method_1_code 0 = .ok (.aload_n 0, 1) := by decide +kernel
theorem d_Oct_init_1 : decode prog_10_method_1_code 1 = .ok (.invokespecial 3, 3) := by decide +kernel
theorem kw_4_69 : (Jvm.Cond.methodLink "CertificateDesk$Octets" (3 : Nat) ({ cls := "java/lang/Object", name := "<init>", desc := "()V" } : Jvm.MethodName)) ∈ cd_tbl := tb_4 (List.mem_of_getElem? (i := 69) (by decide +kernel)) (by decide)
theorem d_Oct_init_4 : decode prog_10_method_1_code 4 = .ok (.aload_n 0, 1) := by decide +kernel
theorem d_Oct_init_5 : decode prog_10_method_1_code 5 = .ok (.bipush 80, 2) := by decide +kernel
theorem d_Oct_init_7 : decode prog_10_method_1_code 7 = .ok (.newarray .int, 2) := by decide +kernel
theorem kw_1_96 : (Jvm.Cond.arrayClass Jvm.ClassFile.FieldType.int) ∈ cd_tbl := tb_1 (List.mem_of_getElem? (i := 96) (by decide +kernel)) (by decide)
theorem d_Oct_init_9 : decode prog_10_method_1_code 9 = .ok (.putfield 11, 3) := by decide +kernel
theorem kw_4_70 : (Jvm.Cond.fieldLink "CertificateDesk$Octets" (11 : Nat) "CertificateDesk$Octets" "octets" "[I") ∈ cd_tbl := tb_4 (List.mem_of_getElem? (i := 70) (by decide +kernel)) (by decide)
theorem kw_4_73 : (Jvm.Cond.laysFinal "CertificateDesk$Octets" "CertificateDesk$Octets" "octets" "[I") ∈ cd_tbl := tb_4 (List.mem_of_getElem? (i := 73) (by decide +kernel)) (by decide)
theorem kw_4_75 : (Jvm.Cond.lays "CertificateDesk$Octets" "CertificateDesk$Octets" "size" "I") ∈ cd_tbl := tb_4 (List.mem_of_getElem? (i := 75) (by decide +kernel)) (by decide)
theorem kw_4_65 : (Jvm.Cond.instantiable "CertificateDesk$Octets" (2 : Nat)) ∈ cd_tbl := tb_4 (List.mem_of_getElem? (i := 65) (by decide +kernel)) (by decide)
theorem kw_1_28 : (Jvm.Cond.initialized "CertificateDesk$Octets") ∈ cd_tbl := tb_1 (List.mem_of_getElem? (i := 28) (by decide +kernel)) (by decide)
theorem cl_7 : cd_CL 7 2 := ⟨_, rfl, List.forall_mem_cons.mpr ⟨kw_4_73, List.forall_mem_cons.mpr ⟨kw_4_75, fun _ h => absurd h List.not_mem_nil⟩⟩, by decide +kernel, by decide +kernel, kw_4_65, kw_1_28, by decide +kernel⟩
theorem fp_Oct_init_11 {X : cd_E} : cd_FP X m_Oct_init 11 7 0 (.array .int) := cd_FP.of cl_7 rfl rfl (by decide) kw_4_70 (Or.inl rfl) (Or.inr ⟨rfl, rfl, rfl⟩)
theorem d_Oct_init_12 : decode prog_10_method_1_code 12 = .ok (.aload_n 0, 1) := by decide +kernel
theorem d_Oct_init_13 : decode prog_10_method_1_code 13 = .ok (.iconst 0, 1) := by decide +kernel
theorem d_Oct_init_14 : decode prog_10_method_1_code 14 = .ok (.putfield 15, 3) := by decide +kernel
theorem kw_4_71 : (Jvm.Cond.fieldLink "CertificateDesk$Octets" (15 : Nat) "CertificateDesk$Octets" "size" "I") ∈ cd_tbl := tb_4 (List.mem_of_getElem? (i := 71) (by decide +kernel)) (by decide)
theorem fp_Oct_init_15 {X : cd_E} : cd_FP X m_Oct_init 15 7 1 .int := cd_FP.of cl_7 rfl rfl (by decide) kw_4_71 (Or.inl rfl) (Or.inl rfl)
theorem d_Oct_init_17 : decode prog_10_method_1_code 17 = .ok (.return_, 1) := by decide +kernel
theorem g_Oct_init {X : cd_E} {kc ks : Nat} {h : cd_H} {Q : Option Value → cd_H → Prop} {a0 : Nat} (H : (cd_k (cd_new h (.inr (0, 80))) a0 = some (.inl 7)) ∧ ((64 ≤ a0) ∧ (Q none (cd_si (cd_sr (cd_new h (.inr (0, 80))) a0 0 (some (cd_n h))) a0 1 0)))) : cd_W X m_Oct_init (kc + 1) (ks + 80) 0 [some (.ref a0)] [] h Q := by
  refine cd_aload_n (i := 0) (v := .ref a0) d_Oct_init_0 rfl rfl (cd_isr_ref _) ?_
  refine cd_objInit d_Oct_init_1 kw_4_69 kw_1_35 kw_1_36 (by decide) (by decide) (Nat.le_of_ble_eq_true rfl) ?_
  refine cd_aload_n (i := 0) (v := .ref a0) d_Oct_init_4 rfl rfl (cd_isr_ref _) ?_
  refine cd_bipush (v := 80) d_Oct_init_5 (by decide) ?_
  refine cd_newa (z := 0) (N := 80) (kc := (kc + 0)) (ks := (ks + 0)) d_Oct_init_7 rfl kw_1_96 rfl (by decide) (by decide) (by decide) ?_
  obtain ⟨c1, H⟩ := H
  obtain ⟨c2, H⟩ := H
  refine cd_putR (o := (some (cd_n h))) d_Oct_init_9 fp_Oct_init_11 (Or.inr ⟨_, rfl⟩) c1 c2 ?_
  refine cd_aload_n (i := 0) (v := .ref a0) d_Oct_init_12 rfl rfl (cd_isr_ref _) ?_
  refine cd_iconst (v := 0) d_Oct_init_13 (by decide) ?_
  refine cd_putI d_Oct_init_14 fp_Oct_init_15 (fun _ _ _ => rfl) c1 c2 rfl rfl ?_
  exact cd_vret d_Oct_init_17 rfl H

abbrev m_Oct_at : cd_M := (⟨"CertificateDesk$Octets", "at", "(I)I"⟩, prog_10_method_2_code, 2, some .int, 1, 20)
theorem d_Oct_at_0 : decode prog_10_method_2_code 0 = .ok (.iload_n 1, 1) := by decide +kernel
theorem d_Oct_at_1 : decode prog_10_method_2_code 1 = .ok (.ifCond .lt 20, 3) := by decide +kernel
theorem d_Oct_at_21 : decode prog_10_method_2_code 21 = .ok (.iconst (-1), 1) := by decide +kernel
theorem d_Oct_at_22 : decode prog_10_method_2_code 22 = .ok (.ireturn, 1) := by decide +kernel
theorem d_Oct_at_4 : decode prog_10_method_2_code 4 = .ok (.iload_n 1, 1) := by decide +kernel
theorem d_Oct_at_5 : decode prog_10_method_2_code 5 = .ok (.aload_n 0, 1) := by decide +kernel
theorem d_Oct_at_6 : decode prog_10_method_2_code 6 = .ok (.getfield 15, 3) := by decide +kernel
theorem fl_Oct_15 {X : cd_E} : cd_FL X "CertificateDesk$Octets" 15 7 1 .int := cd_FL.of rfl rfl (by decide) kw_4_71 (Or.inl rfl)
theorem d_Oct_at_9 : decode prog_10_method_2_code 9 = .ok (.if_icmp .ge 12, 3) := by decide +kernel
theorem d_Oct_at_12 : decode prog_10_method_2_code 12 = .ok (.aload_n 0, 1) := by decide +kernel
theorem d_Oct_at_13 : decode prog_10_method_2_code 13 = .ok (.getfield 11, 3) := by decide +kernel
theorem fl_Oct_11 {X : cd_E} : cd_FL X "CertificateDesk$Octets" 11 7 0 (.array .int) := cd_FL.of rfl rfl (by decide) kw_4_70 (Or.inl rfl)
theorem d_Oct_at_16 : decode prog_10_method_2_code 16 = .ok (.iload_n 1, 1) := by decide +kernel
theorem d_Oct_at_17 : decode prog_10_method_2_code 17 = .ok (.iaload, 1) := by decide +kernel
theorem d_Oct_at_18 : decode prog_10_method_2_code 18 = .ok (.goto 4, 3) := by decide +kernel
theorem g_Oct_at {X : cd_E} {kc ks : Nat} {h : cd_H} {Q : Option Value → cd_H → Prop} {a0 : Nat} {p1 : Int32} (F : cc_ok h) (H : (((p1 < 0) → (Q (some (.int (-1))) h)) ∧ ((¬ p1 < 0) → ((cd_k h a0 = some (.inl 7)) ∧ (((((cd_i h a0 1) ≤ p1) → (Q (some (.int (-1))) h)) ∧ ((¬ (cd_i h a0 1) ≤ p1) → ((∃ b4 : Nat, (cd_r h a0 0) = some b4 ∧ ((∃ n6 : Nat, cd_k h b4 = some (.inr (0, n6)) ∧ ((vp_in p1 n6) ∧ (Q (some (.int (cd_i h b4 p1.toNatClampNeg))) h))))))))))))) : cd_W X m_Oct_at kc ks 0 [some (.ref a0), some (.int p1)] [] h Q := by
  refine cd_iload_n (i := 1) d_Oct_at_0 rfl rfl ?_
  refine cd_if_lt (tgt := 21) d_Oct_at_1 (by decide) (fun t1 => ?_) (fun t1 => ?_)
  · replace H := H.1 t1
    refine cd_iconst (v := (-1)) d_Oct_at_21 (by decide) ?_
    exact cd_iret d_Oct_at_22 rfl rfl H
  · replace H := H.2 t1
    refine cd_iload_n (i := 1) d_Oct_at_4 rfl rfl ?_
    refine cd_aload_n (i := 0) (v := .ref a0) d_Oct_at_5 rfl rfl (cd_isr_ref _) ?_
    obtain ⟨c2, H⟩ := H
    refine cd_get (v := .int (cd_i h a0 1)) d_Oct_at_6 fl_Oct_15 c2 rfl ?_
    refine cd_icmp_ge (tgt := 21) d_Oct_at_9 (by decide) (fun t3 => ?_) (fun t3 => ?_)
    · replace H := H.1 t3
      refine cd_iconst (v := (-1)) d_Oct_at_21 (by decide) ?_
      exact cd_iret d_Oct_at_22 rfl rfl H
    · replace H := H.2 t3
      refine cd_aload_n (i := 0) (v := .ref a0) d_Oct_at_12 rfl rfl (cd_isr_ref _) ?_
      refine cd_get (v := va_rf (cd_r h a0 0)) d_Oct_at_13 fl_Oct_11 c2 rfl ?_
      refine cd_iload_n (i := 1) d_Oct_at_16 rfl rfl ?_
      obtain ⟨b4, e5, H⟩ := H
      rw [cd_rfs e5]
      obtain ⟨n6, c7, H⟩ := H
      obtain ⟨c8, H⟩ := H
      refine cd_iald (j := p1) d_Oct_at_17 rfl c7 c8 ?_
      refine cd_goto (tgt := 22) d_Oct_at_18 (by decide) ?_
      exact cd_iret d_Oct_at_22 rfl rfl H

abbrev m_Oct_openRow : cd_M := (⟨"CertificateDesk$Octets", "openRow", "()I"⟩, prog_10_method_3_code, 2, some .int, 2, 41)
theorem d_Oct_openRow_0 : decode prog_10_method_3_code 0 = .ok (.aload_n 0, 1) := by decide +kernel
theorem d_Oct_openRow_1 : decode prog_10_method_3_code 1 = .ok (.getfield 15, 3) := by decide +kernel
theorem d_Oct_openRow_4 : decode prog_10_method_3_code 4 = .ok (.istore_n 1, 1) := by decide +kernel
theorem d_Oct_openRow_5 : decode prog_10_method_3_code 5 = .ok (.aload_n 0, 1) := by decide +kernel
theorem d_Oct_openRow_6 : decode prog_10_method_3_code 6 = .ok (.bipush 48, 2) := by decide +kernel
theorem d_Oct_openRow_8 : decode prog_10_method_3_code 8 = .ok (.invokevirtual 19, 3) := by decide +kernel
abbrev m_Oct_put : cd_M := (⟨"CertificateDesk$Octets", "put", "(I)V"⟩, prog_10_method_10_code, 2, none, 1, 20)
theorem kw_4_82 : (Jvm.Cond.methodLink "CertificateDesk$Octets" (19 : Nat) ({ cls := "CertificateDesk$Octets", name := "put", desc := "(I)V" } : Jvm.MethodName)) ∈ cd_tbl := tb_4 (List.mem_of_getElem? (i := 82) (by decide +kernel)) (by decide)
theorem kw_4_85 : (Jvm.Cond.code ({ cls := "CertificateDesk$Octets", name := "put", desc := "(I)V" } : Jvm.MethodName) prog_10_method_10_code (2 : Nat) (Option.none : Option Jvm.ClassFile.FieldType)) ∈ cd_tbl := tb_4 (List.mem_of_getElem? (i := 85) (by decide +kernel)) (by decide)
theorem kw_4_84 : (Jvm.Cond.instanceMethod ({ cls := "CertificateDesk$Octets", name := "put", desc := "(I)V" } : Jvm.MethodName)) ∈ cd_tbl := tb_4 (List.mem_of_getElem? (i := 84) (by decide +kernel)) (by decide)
theorem kp_31 : Cond.selects "CertificateDesk$Octets" ⟨"CertificateDesk$Octets", "put", "(I)V"⟩ ⟨"CertificateDesk$Octets", "put", "(I)V"⟩ ∈ cd_tbl := cd_sel (List.mem_of_getElem? (i := 31) (by decide +kernel)) (by decide)
theorem ca_Oct_openRow_19 {X : cd_E} : cd_CV X m_Oct_openRow m_Oct_put 19 1 7 := ⟨⟨by decide, kw_4_85, kw_1_28, ⟨by decide, by decide, by decide +kernel⟩, by decide, by decide⟩, ⟨_, rfl, rfl⟩, kw_4_84, kp_31, (Or.inl kw_4_82)⟩
theorem d_Oct_openRow_11 : decode prog_10_method_3_code 11 = .ok (.aload_n 0, 1) := by decide +kernel
theorem d_Oct_openRow_12 : decode prog_10_method_3_code 12 = .ok (.iconst 0, 1) := by decide +kernel
theorem d_Oct_openRow_13 : decode prog_10_method_3_code 13 = .ok (.invokevirtual 19, 3) := by decide +kernel
theorem d_Oct_openRow_16 : decode prog_10_method_3_code 16 = .ok (.iload_n 1, 1) := by decide +kernel
theorem d_Oct_openRow_17 : decode prog_10_method_3_code 17 = .ok (.ireturn, 1) := by decide +kernel
theorem g_Oct_openRow {X : cd_E} {kc ks : Nat} {h : cd_H} {Q : Option Value → cd_H → Prop} {a0 : Nat} (F : cc_ok h) (H : (cd_k h a0 = some (.inl 7)) ∧ (cd_W X m_Oct_put 0 0 0 [some (.ref a0), some (.int 48)] [] h (fun r2 h3 => (r2 = none) ∧ ((cc_ok h3) ∧ ((cd_k h3 a0 = some (.inl 7)) ∧ (cd_W X m_Oct_put 0 0 0 [some (.ref a0), some (.int 0)] [] h3 (fun r6 h7 => (r6 = none) ∧ ((cc_ok h7) ∧ (Q (some (.int (cd_i h a0 1))) h7))))))))) : cd_W X m_Oct_openRow kc ks 0 [some (.ref a0), none] [] h Q := by
  refine cd_aload_n (i := 0) (v := .ref a0) d_Oct_openRow_0 rfl rfl (cd_isr_ref _) ?_
  obtain ⟨c1, H⟩ := H
  refine cd_get (v := .int (cd_i h a0 1)) d_Oct_openRow_1 fl_Oct_15 c1 rfl ?_
  refine cd_istore_n (i := 1) d_Oct_openRow_4 rfl (by decide) ?_
  show cd_W X m_Oct_openRow kc ks 5 [some (.ref a0), some (.int (cd_i h a0 1))] [] h Q
  refine cd_aload_n (i := 0) (v := .ref a0) d_Oct_openRow_5 rfl rfl (cd_isr_ref _) ?_
  refine cd_bipush (v := 48) d_Oct_openRow_6 (by decide) ?_
  refine cd_callV (kc := kc) (ks := ks) (kc' := 0) (ks' := 0) (As := [.int 48]) (S := []) d_Oct_openRow_8 ca_Oct_openRow_19 c1 rfl (Nat.le_of_ble_eq_true rfl) (Nat.le_of_ble_eq_true rfl) ?_
  refine cd_W.mono (fun r2 h3 H => ?_) H
  obtain ⟨rfl, H⟩ := H
  obtain ⟨F4, H⟩ := H
  show cd_W X m_Oct_openRow kc ks 11 [some (.ref a0), some (.int (cd_i h a0 1))] [] h3 Q
  refine cd_aload_n (i := 0) (v := .ref a0) d_Oct_openRow_11 rfl rfl (cd_isr_ref _) ?_
  refine cd_iconst (v := 0) d_Oct_openRow_12 (by decide) ?_
  obtain ⟨c5, H⟩ := H
  refine cd_callV (kc := kc) (ks := ks) (kc' := 0) (ks' := 0) (As := [.int 0]) (S := []) d_Oct_openRow_13 ca_Oct_openRow_19 c5 rfl (Nat.le_of_ble_eq_true rfl) (Nat.le_of_ble_eq_true rfl) ?_
  refine cd_W.mono (fun r6 h7 H => ?_) H
  obtain ⟨rfl, H⟩ := H
  obtain ⟨F8, H⟩ := H
  show cd_W X m_Oct_openRow kc ks 16 [some (.ref a0), some (.int (cd_i h a0 1))] [] h7 Q
  refine cd_iload_n (i := 1) d_Oct_openRow_16 rfl rfl ?_
  exact cd_iret d_Oct_openRow_17 rfl rfl H

abbrev m_Oct_closeRow : cd_M := (⟨"CertificateDesk$Octets", "closeRow", "(I)V"⟩, prog_10_method_4_code, 2, none, 1, 20)
theorem d_Oct_closeRow_0 : decode prog_10_method_4_code 0 = .ok (.iload_n 1, 1) := by decide +kernel
theorem d_Oct_closeRow_1 : decode prog_10_method_4_code 1 = .ok (.ifCond .lt 29, 3) := by decide +kernel
theorem d_Oct_closeRow_30 : decode prog_10_method_4_code 30 = .ok (.return_, 1) := by decide +kernel
theorem d_Oct_closeRow_4 : decode prog_10_method_4_code 4 = .ok (.iload_n 1, 1) := by decide +kernel
theorem d_Oct_closeRow_5 : decode prog_10_method_4_code 5 = .ok (.iconst 1, 1) := by decide +kernel
theorem d_Oct_closeRow_6 : decode prog_10_method_4_code 6 = .ok (.iadd, 1) := by decide +kernel
theorem d_Oct_closeRow_7 : decode prog_10_method_4_code 7 = .ok (.aload_n 0, 1) := by decide +kernel
theorem d_Oct_closeRow_8 : decode prog_10_method_4_code 8 = .ok (.getfield 15, 3) := by decide +kernel
theorem d_Oct_closeRow_11 : decode prog_10_method_4_code 11 = .ok (.if_icmp .ge 19, 3) := by decide +kernel
theorem d_Oct_closeRow_14 : decode prog_10_method_4_code 14 = .ok (.aload_n 0, 1) := by decide +kernel
theorem d_Oct_closeRow_15 : decode prog_10_method_4_code 15 = .ok (.getfield 11, 3) := by decide +kernel
theorem d_Oct_closeRow_18 : decode prog_10_method_4_code 18 = .ok (.iload_n 1, 1) := by decide +kernel
theorem d_Oct_closeRow_19 : decode prog_10_method_4_code 19 = .ok (.iconst 1, 1) := by decide +kernel
theorem d_Oct_closeRow_20 : decode prog_10_method_4_code 20 = .ok (.iadd, 1) := by decide +kernel
theorem d_Oct_closeRow_21 : decode prog_10_method_4_code 21 = .ok (.aload_n 0, 1) := by decide +kernel
theorem d_Oct_closeRow_22 : decode prog_10_method_4_code 22 = .ok (.getfield 15, 3) := by decide +kernel
theorem d_Oct_closeRow_25 : decode prog_10_method_4_code 25 = .ok (.iload_n 1, 1) := by decide +kernel
theorem d_Oct_closeRow_26 : decode prog_10_method_4_code 26 = .ok (.isub, 1) := by decide +kernel
theorem d_Oct_closeRow_27 : decode prog_10_method_4_code 27 = .ok (.iconst 2, 1) := by decide +kernel
theorem d_Oct_closeRow_28 : decode prog_10_method_4_code 28 = .ok (.isub, 1) := by decide +kernel
theorem d_Oct_closeRow_29 : decode prog_10_method_4_code 29 = .ok (.iastore, 1) := by decide +kernel
theorem g_Oct_closeRow {X : cd_E} {kc ks : Nat} {h : cd_H} {Q : Option Value → cd_H → Prop} {a0 : Nat} {p1 : Int32} (F : cc_ok h) (H : (((p1 < 0) → (Q none h)) ∧ ((¬ p1 < 0) → ((cd_k h a0 = some (.inl 7)) ∧ (((((cd_i h a0 1) ≤ (p1 + 1)) → (Q none h)) ∧ ((¬ (cd_i h a0 1) ≤ (p1 + 1)) → ((∃ b4 : Nat, (cd_r h a0 0) = some b4 ∧ ((∃ n6 : Nat, cd_k h b4 = some (.inr (0, n6)) ∧ ((64 ≤ b4) ∧ ((vp_in (p1 + 1) n6) ∧ (Q none (cd_si h b4 (p1 + 1).toNatClampNeg (((cd_i h a0 1) - p1) - 2)))))))))))))))) : cd_W X m_Oct_closeRow kc ks 0 [some (.ref a0), some (.int p1)] [] h Q := by
  refine cd_iload_n (i := 1) d_Oct_closeRow_0 rfl rfl ?_
  refine cd_if_lt (tgt := 30) d_Oct_closeRow_1 (by decide) (fun t1 => ?_) (fun t1 => ?_)
  · replace H := H.1 t1
    exact cd_vret d_Oct_closeRow_30 rfl H
  · replace H := H.2 t1
    refine cd_iload_n (i := 1) d_Oct_closeRow_4 rfl rfl ?_
    refine cd_iconst (v := 1) d_Oct_closeRow_5 (by decide) ?_
    refine cd_iadd d_Oct_closeRow_6 ?_
    refine cd_aload_n (i := 0) (v := .ref a0) d_Oct_closeRow_7 rfl rfl (cd_isr_ref _) ?_
    obtain ⟨c2, H⟩ := H
    refine cd_get (v := .int (cd_i h a0 1)) d_Oct_closeRow_8 fl_Oct_15 c2 rfl ?_
    refine cd_icmp_ge (tgt := 30) d_Oct_closeRow_11 (by decide) (fun t3 => ?_) (fun t3 => ?_)
    · replace H := H.1 t3
      exact cd_vret d_Oct_closeRow_30 rfl H
    · replace H := H.2 t3
      refine cd_aload_n (i := 0) (v := .ref a0) d_Oct_closeRow_14 rfl rfl (cd_isr_ref _) ?_
      refine cd_get (v := va_rf (cd_r h a0 0)) d_Oct_closeRow_15 fl_Oct_11 c2 rfl ?_
      refine cd_iload_n (i := 1) d_Oct_closeRow_18 rfl rfl ?_
      refine cd_iconst (v := 1) d_Oct_closeRow_19 (by decide) ?_
      refine cd_iadd d_Oct_closeRow_20 ?_
      refine cd_aload_n (i := 0) (v := .ref a0) d_Oct_closeRow_21 rfl rfl (cd_isr_ref _) ?_
      refine cd_get (v := .int (cd_i h a0 1)) d_Oct_closeRow_22 fl_Oct_15 c2 rfl ?_
      refine cd_iload_n (i := 1) d_Oct_closeRow_25 rfl rfl ?_
      refine cd_isub d_Oct_closeRow_26 ?_
      refine cd_iconst (v := 2) d_Oct_closeRow_27 (by decide) ?_
      refine cd_isub d_Oct_closeRow_28 ?_
      obtain ⟨b4, e5, H⟩ := H
      rw [cd_rfs e5]
      obtain ⟨n6, c7, H⟩ := H
      obtain ⟨c8, H⟩ := H
      obtain ⟨c9, H⟩ := H
      refine cd_iasto (j := (p1 + 1)) d_Oct_closeRow_29 rfl c7 c8 c9 ?_
      exact cd_vret d_Oct_closeRow_30 rfl H

abbrev m_Oct_putInteger : cd_M := (⟨"CertificateDesk$Octets", "putInteger", "(I)V"⟩, prog_10_method_5_code, 3, none, 3, 64)
theorem d_Oct_putInteger_0 : decode prog_10_method_5_code 0 = .ok (.iconst 1, 1) := by decide +kernel
theorem d_Oct_putInteger_1 : decode prog_10_method_5_code 1 = .ok (.istore_n 2, 1) := by decide +kernel
theorem g_Oct_putInteger {X : cd_E} {kc ks : Nat} {h : cd_H} {Q : Option Value → cd_H → Prop} {a0 : Nat} {p1 : Int32} (F : cc_ok h) (H : cd_W X m_Oct_putInteger kc ks 2 [some (.ref a0), some (.int p1), some (.int 1)] [] h Q) : cd_W X m_Oct_putInteger kc ks 0 [some (.ref a0), some (.int p1), none] [] h Q := by
  refine cd_iconst (v := 1) d_Oct_putInteger_0 (by decide) ?_
  refine cd_istore_n (i := 2) d_Oct_putInteger_1 rfl (by decide) ?_
  show cd_W X m_Oct_putInteger kc ks 2 [some (.ref a0), some (.int p1), some (.int 1)] [] h Q
  exact H

theorem d_Oct_putInteger_2 : decode prog_10_method_5_code 2 = .ok (.iload_n 2, 1) := by decide +kernel
theorem d_Oct_putInteger_3 : decode prog_10_method_5_code 3 = .ok (.iconst 4, 1) := by decide +kernel
theorem d_Oct_putInteger_4 : decode prog_10_method_5_code 4 = .ok (.if_icmp .ge 20, 3) := by decide +kernel
theorem d_Oct_putInteger_24 : decode prog_10_method_5_code 24 = .ok (.aload_n 0, 1) := by decide +kernel
theorem d_Oct_putInteger_25 : decode prog_10_method_5_code 25 = .ok (.iconst 2, 1) := by decide +kernel
theorem d_Oct_putInteger_26 : decode prog_10_method_5_code 26 = .ok (.invokevirtual 19, 3) := by decide +kernel
theorem ca_Oct_putInteger_19 {X : cd_E} : cd_CV X m_Oct_putInteger m_Oct_put 19 1 7 := ⟨⟨by decide, kw_4_85, kw_1_28, ⟨by decide, by decide, by decide +kernel⟩, by decide, by decide⟩, ⟨_, rfl, rfl⟩, kw_4_84, kp_31, (Or.inl kw_4_82)⟩
theorem d_Oct_putInteger_29 : decode prog_10_method_5_code 29 = .ok (.aload_n 0, 1) := by decide +kernel
theorem d_Oct_putInteger_30 : decode prog_10_method_5_code 30 = .ok (.iload_n 2, 1) := by decide +kernel
theorem d_Oct_putInteger_31 : decode prog_10_method_5_code 31 = .ok (.invokevirtual 19, 3) := by decide +kernel
theorem d_Oct_putInteger_34 : decode prog_10_method_5_code 34 = .ok (.aload_n 0, 1) := by decide +kernel
theorem d_Oct_putInteger_35 : decode prog_10_method_5_code 35 = .ok (.iload_n 1, 1) := by decide +kernel
theorem d_Oct_putInteger_36 : decode prog_10_method_5_code 36 = .ok (.iload_n 2, 1) := by decide +kernel
theorem d_Oct_putInteger_37 : decode prog_10_method_5_code 37 = .ok (.invokevirtual 23, 3) := by decide +kernel
abbrev m_Oct_putHighestFirst : cd_M := (⟨"CertificateDesk$Octets", "putHighestFirst", "(II)V"⟩, prog_10_method_9_code, 4, none, 2, 41)
theorem kw_4_90 : (Jvm.Cond.methodLink "CertificateDesk$Octets" (23 : Nat) ({ cls := "CertificateDesk$Octets", name := "putHighestFirst", desc := "(II)V" } : Jvm.MethodName)) ∈ cd_tbl := tb_4 (List.mem_of_getElem? (i := 90) (by decide +kernel)) (by decide)
theorem kw_4_93 : (Jvm.Cond.code ({ cls := "CertificateDesk$Octets", name := "putHighestFirst", desc := "(II)V" } : Jvm.MethodName) prog_10_method_9_code (4 : Nat) (Option.none : Option Jvm.ClassFile.FieldType)) ∈ cd_tbl := tb_4 (List.mem_of_getElem? (i := 93) (by decide +kernel)) (by decide)
theorem kw_4_92 : (Jvm.Cond.instanceMethod ({ cls := "CertificateDesk$Octets", name := "putHighestFirst", desc := "(II)V" } : Jvm.MethodName)) ∈ cd_tbl := tb_4 (List.mem_of_getElem? (i := 92) (by decide +kernel)) (by decide)
theorem kp_32 : Cond.selects "CertificateDesk$Octets" ⟨"CertificateDesk$Octets", "putHighestFirst", "(II)V"⟩ ⟨"CertificateDesk$Octets", "putHighestFirst", "(II)V"⟩ ∈ cd_tbl := cd_sel (List.mem_of_getElem? (i := 32) (by decide +kernel)) (by decide)
theorem ca_Oct_putInteger_23 {X : cd_E} : cd_CV X m_Oct_putInteger m_Oct_putHighestFirst 23 2 7 := ⟨⟨by decide, kw_4_93, kw_1_28, ⟨by decide, by decide, by decide +kernel⟩, by decide, by decide⟩, ⟨_, rfl, rfl⟩, kw_4_92, kp_32, (Or.inl kw_4_90)⟩
theorem d_Oct_putInteger_40 : decode prog_10_method_5_code 40 = .ok (.return_, 1) := by decide +kernel
theorem d_Oct_putInteger_7 : decode prog_10_method_5_code 7 = .ok (.iload_n 1, 1) := by decide +kernel
theorem d_Oct_putInteger_8 : decode prog_10_method_5_code 8 = .ok (.bipush 8, 2) := by decide +kernel
theorem d_Oct_putInteger_10 : decode prog_10_method_5_code 10 = .ok (.iload_n 2, 1) := by decide +kernel
theorem d_Oct_putInteger_11 : decode prog_10_method_5_code 11 = .ok (.imul, 1) := by decide +kernel
theorem d_Oct_putInteger_12 : decode prog_10_method_5_code 12 = .ok (.iconst 1, 1) := by decide +kernel
theorem d_Oct_putInteger_13 : decode prog_10_method_5_code 13 = .ok (.isub, 1) := by decide +kernel
theorem d_Oct_putInteger_14 : decode prog_10_method_5_code 14 = .ok (.ishr, 1) := by decide +kernel
theorem d_Oct_putInteger_15 : decode prog_10_method_5_code 15 = .ok (.ifCond .eq 9, 3) := by decide +kernel
theorem d_Oct_putInteger_18 : decode prog_10_method_5_code 18 = .ok (.iinc 2 1, 3) := by decide +kernel
theorem d_Oct_putInteger_21 : decode prog_10_method_5_code 21 = .ok (.goto (-19), 3) := by decide +kernel
theorem g_Oct_putInteger_2 {X : cd_E} {kc ks : Nat} {h : cd_H} {Q : Option Value → cd_H → Prop} {a0 : Nat} {v1 : Int32} {v2 : Int32} (F : cc_ok h) (H : (((4 ≤ v2) → ((cd_k h a0 = some (.inl 7)) ∧ (cd_W X m_Oct_put 0 0 0 [some (.ref a0), some (.int 2)] [] h (fun r3 h4 => (r3 = none) ∧ ((cc_ok h4) ∧ ((cd_k h4 a0 = some (.inl 7)) ∧ (cd_W X m_Oct_put 0 0 0 [some (.ref a0), some (.int v2)] [] h4 (fun r7 h8 => (r7 = none) ∧ ((cc_ok h8) ∧ ((cd_k h8 a0 = some (.inl 7)) ∧ (cd_W X m_Oct_putHighestFirst 0 0 0 [some (.ref a0), some (.int v1), some (.int v2), none] [] h8 (fun r11 h12 => (r11 = none) ∧ ((cc_ok h12) ∧ (Q none h12)))))))))))))) ∧ ((¬ 4 ≤ v2) → (((((v1 >>> (((8 * v2) - 1) &&& 31)) = 0) → ((cd_k h a0 = some (.inl 7)) ∧ (cd_W X m_Oct_put 0 0 0 [some (.ref a0), some (.int 2)] [] h (fun r16 h17 => (r16 = none) ∧ ((cc_ok h17) ∧ ((cd_k h17 a0 = some (.inl 7)) ∧ (cd_W X m_Oct_put 0 0 0 [some (.ref a0), some (.int v2)] [] h17 (fun r20 h21 => (r20 = none) ∧ ((cc_ok h21) ∧ ((cd_k h21 a0 = some (.inl 7)) ∧ (cd_W X m_Oct_putHighestFirst 0 0 0 [some (.ref a0), some (.int v1), some (.int v2), none] [] h21 (fun r24 h25 => (r24 = none) ∧ ((cc_ok h25) ∧ (Q none h25)))))))))))))) ∧ ((¬ (v1 >>> (((8 * v2) - 1) &&& 31)) = 0) → (cd_W X m_Oct_putInteger kc ks 2 [some (.ref a0), some (.int v1), some (.int (v2 + 1))] [] h Q))))))) : cd_W X m_Oct_putInteger kc ks 2 [some (.ref a0), some (.int v1), some (.int v2)] [] h Q := by
  refine cd_iload_n (i := 2) d_Oct_putInteger_2 rfl rfl ?_
  refine cd_iconst (v := 4) d_Oct_putInteger_3 (by decide) ?_
  refine cd_icmp_ge (tgt := 24) d_Oct_putInteger_4 (by decide) (fun t1 => ?_) (fun t1 => ?_)
  · replace H := H.1 t1
    refine cd_aload_n (i := 0) (v := .ref a0) d_Oct_putInteger_24 rfl rfl (cd_isr_ref _) ?_
    refine cd_iconst (v := 2) d_Oct_putInteger_25 (by decide) ?_
    obtain ⟨c2, H⟩ := H
    refine cd_callV (kc := kc) (ks := ks) (kc' := 0) (ks' := 0) (As := [.int 2]) (S := []) d_Oct_putInteger_26 ca_Oct_putInteger_19 c2 rfl (Nat.le_of_ble_eq_true rfl) (Nat.le_of_ble_eq_true rfl) ?_
    refine cd_W.mono (fun r3 h4 H => ?_) H
    obtain ⟨rfl, H⟩ := H
    obtain ⟨F5, H⟩ := H
    show cd_W X m_Oct_putInteger kc ks 29 [some (.ref a0), some (.int v1), some (.int v2)] [] h4 Q
    refine cd_aload_n (i := 0) (v := .ref a0) d_Oct_putInteger_29 rfl rfl (cd_isr_ref _) ?_
    refine cd_iload_n (i := 2) d_Oct_putInteger_30 rfl rfl ?_
    obtain ⟨c6, H⟩ := H
    refine cd_callV (kc := kc) (ks := ks) (kc' := 0) (ks' := 0) (As := [.int v2]) (S := []) d_Oct_putInteger_31 ca_Oct_putInteger_19 c6 rfl (Nat.le_of_ble_eq_true rfl) (Nat.le_of_ble_eq_true rfl) ?_
    refine cd_W.mono (fun r7 h8 H => ?_) H
    obtain ⟨rfl, H⟩ := H
    obtain ⟨F9, H⟩ := H
    show cd_W X m_Oct_putInteger kc ks 34 [some (.ref a0), some (.int v1), some (.int v2)] [] h8 Q
    refine cd_aload_n (i := 0) (v := .ref a0) d_Oct_putInteger_34 rfl rfl (cd_isr_ref _) ?_
    refine cd_iload_n (i := 1) d_Oct_putInteger_35 rfl rfl ?_
    refine cd_iload_n (i := 2) d_Oct_putInteger_36 rfl rfl ?_
    obtain ⟨c10, H⟩ := H
    refine cd_callV (kc := kc) (ks := ks) (kc' := 0) (ks' := 0) (As := [.int v1, .int v2]) (S := []) d_Oct_putInteger_37 ca_Oct_putInteger_23 c10 rfl (Nat.le_of_ble_eq_true rfl) (Nat.le_of_ble_eq_true rfl) ?_
    refine cd_W.mono (fun r11 h12 H => ?_) H
    obtain ⟨rfl, H⟩ := H
    obtain ⟨F13, H⟩ := H
    show cd_W X m_Oct_putInteger kc ks 40 [some (.ref a0), some (.int v1), some (.int v2)] [] h12 Q
    exact cd_vret d_Oct_putInteger_40 rfl H
  · replace H := H.2 t1
    refine cd_iload_n (i := 1) d_Oct_putInteger_7 rfl rfl ?_
    refine cd_bipush (v := 8) d_Oct_putInteger_8 (by decide) ?_
    refine cd_iload_n (i := 2) d_Oct_putInteger_10 rfl rfl ?_
    refine cd_imul d_Oct_putInteger_11 ?_
    refine cd_iconst (v := 1) d_Oct_putInteger_12 (by decide) ?_
    refine cd_isub d_Oct_putInteger_13 ?_
    refine cd_ishr d_Oct_putInteger_14 ?_
    refine cd_if_eq (tgt := 24) d_Oct_putInteger_15 (by decide) (fun t14 => ?_) (fun t14 => ?_)
    · replace H := H.1 t14
      refine cd_aload_n (i := 0) (v := .ref a0) d_Oct_putInteger_24 rfl rfl (cd_isr_ref _) ?_
      refine cd_iconst (v := 2) d_Oct_putInteger_25 (by decide) ?_
      obtain ⟨c15, H⟩ := H
      refine cd_callV (kc := kc) (ks := ks) (kc' := 0) (ks' := 0) (As := [.int 2]) (S := []) d_Oct_putInteger_26 ca_Oct_putInteger_19 c15 rfl (Nat.le_of_ble_eq_true rfl) (Nat.le_of_ble_eq_true rfl) ?_
      refine cd_W.mono (fun r16 h17 H => ?_) H
      obtain ⟨rfl, H⟩ := H
      obtain ⟨F18, H⟩ := H
      show cd_W X m_Oct_putInteger kc ks 29 [some (.ref a0), some (.int v1), some (.int v2)] [] h17 Q
      refine cd_aload_n (i := 0) (v := .ref a0) d_Oct_putInteger_29 rfl rfl (cd_isr_ref _) ?_
      refine cd_iload_n (i := 2) d_Oct_putInteger_30 rfl rfl ?_
      obtain ⟨c19, H⟩ := H
      refine cd_callV (kc := kc) (ks := ks) (kc' := 0) (ks' := 0) (As := [.int v2]) (S := []) d_Oct_putInteger_31 ca_Oct_putInteger_19 c19 rfl (Nat.le_of_ble_eq_true rfl) (Nat.le_of_ble_eq_true rfl) ?_
      refine cd_W.mono (fun r20 h21 H => ?_) H
      obtain ⟨rfl, H⟩ := H
      obtain ⟨F22, H⟩ := H
      show cd_W X m_Oct_putInteger kc ks 34 [some (.ref a0), some (.int v1), some (.int v2)] [] h21 Q
      refine cd_aload_n (i := 0) (v := .ref a0) d_Oct_putInteger_34 rfl rfl (cd_isr_ref _) ?_
      refine cd_iload_n (i := 1) d_Oct_putInteger_35 rfl rfl ?_
      refine cd_iload_n (i := 2) d_Oct_putInteger_36 rfl rfl ?_
      obtain ⟨c23, H⟩ := H
      refine cd_callV (kc := kc) (ks := ks) (kc' := 0) (ks' := 0) (As := [.int v1, .int v2]) (S := []) d_Oct_putInteger_37 ca_Oct_putInteger_23 c23 rfl (Nat.le_of_ble_eq_true rfl) (Nat.le_of_ble_eq_true rfl) ?_
      refine cd_W.mono (fun r24 h25 H => ?_) H
      obtain ⟨rfl, H⟩ := H
      obtain ⟨F26, H⟩ := H
      show cd_W X m_Oct_putInteger kc ks 40 [some (.ref a0), some (.int v1), some (.int v2)] [] h25 Q
      exact cd_vret d_Oct_putInteger_40 rfl H
    · replace H := H.2 t14
      refine cd_iinc (i := 2) (v := (v2 + 1)) d_Oct_putInteger_18 rfl (cd_inc1 _) (by decide) ?_
      show cd_W X m_Oct_putInteger kc ks 21 [some (.ref a0), some (.int v1), some (.int (v2 + 1))] [] h Q
      refine cd_goto (tgt := 2) d_Oct_putInteger_21 (by decide) ?_
      exact H

abbrev m_Oct_putName : cd_M := (⟨"CertificateDesk$Octets", "putName", "(Ljava/lang/String;)V"⟩, prog_10_method_6_code, 3, none, 27, 591)
theorem d_Oct_putName_0 : decode prog_10_method_6_code 0 = .ok (.aload_n 0, 1) := by decide +kernel
theorem d_Oct_putName_1 : decode prog_10_method_6_code 1 = .ok (.sipush 130, 3) := by decide +kernel
theorem d_Oct_putName_4 : decode prog_10_method_6_code 4 = .ok (.invokevirtual 19, 3) := by decide +kernel
theorem ca_Oct_putName_19 {X : cd_E} : cd_CV X m_Oct_putName m_Oct_put 19 1 7 := ⟨⟨by decide, kw_4_85, kw_1_28, ⟨by decide, by decide, by decide +kernel⟩, by decide, by decide⟩, ⟨_, rfl, rfl⟩, kw_4_84, kp_31, (Or.inl kw_4_82)⟩
theorem d_Oct_putName_7 : decode prog_10_method_6_code 7 = .ok (.aload_n 0, 1) := by decide +kernel
theorem d_Oct_putName_8 : decode prog_10_method_6_code 8 = .ok (.aload_n 1, 1) := by decide +kernel
theorem d_Oct_putName_9 : decode prog_10_method_6_code 9 = .ok (.invokevirtual 27, 3) := by decide +kernel
theorem kw_4_98 : (Jvm.Cond.methodLink "CertificateDesk$Octets" (27 : Nat) ({ cls := "java/lang/String", name := "length", desc := "()I" } : Jvm.MethodName)) ∈ cd_tbl := tb_4 (List.mem_of_getElem? (i := 98) (by decide +kernel)) (by decide)
theorem ca_Oct_putName_27 {X : cd_E} : cd_CV X m_Oct_putName m_Str_length 27 0 13 := ⟨⟨by decide, kw_2_78, kw_1_14, ⟨by decide, by decide, by decide +kernel⟩, by decide, by decide⟩, ⟨_, rfl, rfl⟩, kw_2_76, kw_2_77, (Or.inl kw_4_98)⟩
theorem d_Oct_putName_12 : decode prog_10_method_6_code 12 = .ok (.invokevirtual 19, 3) := by decide +kernel
theorem d_Oct_putName_15 : decode prog_10_method_6_code 15 = .ok (.iconst 0, 1) := by decide +kernel
theorem d_Oct_putName_16 : decode prog_10_method_6_code 16 = .ok (.istore_n 2, 1) := by decide +kernel
theorem g_Oct_putName {X : cd_E} {kc ks : Nat} {h : cd_H} {Q : Option Value → cd_H → Prop} {a0 : Nat} {p1 : Nat} (F : cc_ok h) (H : (cd_k h a0 = some (.inl 7)) ∧ (cd_W X m_Oct_put 0 0 0 [some (.ref a0), some (.int 130)] [] h (fun r2 h3 => (r2 = none) ∧ ((cc_ok h3) ∧ ((cd_k h3 p1 = some (.inl 13)) ∧ (cd_W X m_Str_length 0 0 0 [some (.ref p1)] [] h3 (fun r6 h7 => ∃ x8 : Int32, r6 = some (.int x8) ∧ ((cc_ok h7) ∧ ((cd_k h7 a0 = some (.inl 7)) ∧ (cd_W X m_Oct_put 0 0 0 [some (.ref a0), some (.int x8)] [] h7 (fun r11 h12 => (r11 = none) ∧ ((cc_ok h12) ∧ (cd_W X m_Oct_putName kc ks 17 [some (.ref a0), some (.ref p1), some (.int 0)] [] h12 Q))))))))))))) : cd_W X m_Oct_putName kc ks 0 [some (.ref a0), some (.ref p1), none] [] h Q := by
  refine cd_aload_n (i := 0) (v := .ref a0) d_Oct_putName_0 rfl rfl (cd_isr_ref _) ?_
  refine cd_sipush (v := 130) d_Oct_putName_1 (by decide) ?_
  obtain ⟨c1, H⟩ := H
  refine cd_callV (kc := kc) (ks := ks) (kc' := 0) (ks' := 0) (As := [.int 130]) (S := []) d_Oct_putName_4 ca_Oct_putName_19 c1 rfl (Nat.le_of_ble_eq_true rfl) (Nat.le_of_ble_eq_true rfl) ?_
  refine cd_W.mono (fun r2 h3 H => ?_) H
  obtain ⟨rfl, H⟩ := H
  obtain ⟨F4, H⟩ := H
  show cd_W X m_Oct_putName kc ks 7 [some (.ref a0), some (.ref p1), none] [] h3 Q
  refine cd_aload_n (i := 0) (v := .ref a0) d_Oct_putName_7 rfl rfl (cd_isr_ref _) ?_
  refine cd_aload_n (i := 1) (v := .ref p1) d_Oct_putName_8 rfl rfl (cd_isr_ref _) ?_
  obtain ⟨c5, H⟩ := H
  refine cd_callV (kc := kc) (ks := ks) (kc' := 0) (ks' := 0) (As := []) (S := [.ref a0]) d_Oct_putName_9 ca_Oct_putName_27 c5 rfl (Nat.le_of_ble_eq_true rfl) (Nat.le_of_ble_eq_true rfl) ?_
  refine cd_W.mono (fun r6 h7 H => ?_) H
  obtain ⟨x8, rfl, H⟩ := H
  obtain ⟨F9, H⟩ := H
  show cd_W X m_Oct_putName kc ks 12 [some (.ref a0), some (.ref p1), none] [.int x8, .ref a0] h7 Q
  obtain ⟨c10, H⟩ := H
  refine cd_callV (kc := kc) (ks := ks) (kc' := 0) (ks' := 0) (As := [.int x8]) (S := []) d_Oct_putName_12 ca_Oct_putName_19 c10 rfl (Nat.le_of_ble_eq_true rfl) (Nat.le_of_ble_eq_true rfl) ?_
  refine cd_W.mono (fun r11 h12 H => ?_) H
  obtain ⟨rfl, H⟩ := H
  obtain ⟨F13, H⟩ := H
  show cd_W X m_Oct_putName kc ks 15 [some (.ref a0), some (.ref p1), none] [] h12 Q
  refine cd_iconst (v := 0) d_Oct_putName_15 (by decide) ?_
  refine cd_istore_n (i := 2) d_Oct_putName_16 rfl (by decide) ?_
  show cd_W X m_Oct_putName kc ks 17 [some (.ref a0), some (.ref p1), some (.int 0)] [] h12 Q
  exact H

theorem d_Oct_putName_17 : decode prog_10_method_6_code 17 = .ok (.iload_n 2, 1) := by decide +kernel
theorem d_Oct_putName_18 : decode prog_10_method_6_code 18 = .ok (.aload_n 1, 1) := by decide +kernel
theorem d_Oct_putName_19 : decode prog_10_method_6_code 19 = .ok (.invokevirtual 27, 3) := by decide +kernel
theorem d_Oct_putName_22 : decode prog_10_method_6_code 22 = .ok (.if_icmp .ge 18, 3) := by decide +kernel
theorem d_Oct_putName_40 : decode prog_10_method_6_code 40 = .ok (.return_, 1) := by decide +kernel
theorem d_Oct_putName_25 : decode prog_10_method_6_code 25 = .ok (.aload_n 0, 1) := by decide +kernel
theorem d_Oct_putName_26 : decode prog_10_method_6_code 26 = .ok (.aload_n 1, 1) := by decide +kernel
theorem d_Oct_putName_27 : decode prog_10_method_6_code 27 = .ok (.iload_n 2, 1) := by decide +kernel
theorem d_Oct_putName_28 : decode prog_10_method_6_code 28 = .ok (.invokevirtual 33, 3) := by decide +kernel
theorem kw_4_99 : (Jvm.Cond.methodLink "CertificateDesk$Octets" (33 : Nat) ({ cls := "java/lang/String", name := "charAt", desc := "(I)C" } : Jvm.MethodName)) ∈ cd_tbl := tb_4 (List.mem_of_getElem? (i := 99) (by decide +kernel)) (by decide)
theorem ca_Oct_putName_33 {X : cd_E} : cd_CV X m_Oct_putName m_Str_charAt 33 1 13 := ⟨⟨by decide, kw_2_88, kw_1_14, ⟨by decide, by decide, by decide +kernel⟩, by decide, by decide⟩, ⟨_, rfl, rfl⟩, kw_2_86, kw_2_87, (Or.inl kw_4_99)⟩
theorem d_Oct_putName_31 : decode prog_10_method_6_code 31 = .ok (.invokevirtual 19, 3) := by decide +kernel
theorem d_Oct_putName_34 : decode prog_10_method_6_code 34 = .ok (.iinc 2 1, 3) := by decide +kernel
theorem d_Oct_putName_37 : decode prog_10_method_6_code 37 = .ok (.goto (-20), 3) := by decide +kernel
theorem g_Oct_putName_17 {X : cd_E} {kc ks : Nat} {h : cd_H} {Q : Option Value → cd_H → Prop} {a0 : Nat} {v1 : Nat} {v2 : Int32} (F : cc_ok h) (H : (cd_k h v1 = some (.inl 13)) ∧ (cd_W X m_Str_length 0 0 0 [some (.ref v1)] [] h (fun r2 h3 => ∃ x4 : Int32, r2 = some (.int x4) ∧ ((cc_ok h3) ∧ ((((x4 ≤ v2) → (Q none h3)) ∧ ((¬ x4 ≤ v2) → ((cd_k h3 v1 = some (.inl 13)) ∧ (cd_W X m_Str_charAt 0 0 0 [some (.ref v1), some (.int v2)] [] h3 (fun r8 h9 => ∃ x10 : Int32, r8 = some (.int x10) ∧ ((cc_ok h9) ∧ ((cd_k h9 a0 = some (.inl 7)) ∧ (cd_W X m_Oct_put 0 0 0 [some (.ref a0), some (.int x10)] [] h9 (fun r13 h14 => (r13 = none) ∧ ((cc_ok h14) ∧ (cd_W X m_Oct_putName kc ks 17 [some (.ref a0), some (.ref v1), some (.int (v2 + 1))] [] h14 Q)))))))))))))))) : cd_W X m_Oct_putName kc ks 17 [some (.ref a0), some (.ref v1), some (.int v2)] [] h Q := by
  refine cd_iload_n (i := 2) d_Oct_putName_17 rfl rfl ?_
  refine cd_aload_n (i := 1) (v := .ref v1) d_Oct_putName_18 rfl rfl (cd_isr_ref _) ?_
  obtain ⟨c1, H⟩ := H
  refine cd_callV (kc := kc) (ks := ks) (kc' := 0) (ks' := 0) (As := []) (S := [.int v2]) d_Oct_putName_19 ca_Oct_putName_27 c1 rfl (Nat.le_of_ble_eq_true rfl) (Nat.le_of_ble_eq_true rfl) ?_
  refine cd_W.mono (fun r2 h3 H => ?_) H
  obtain ⟨x4, rfl, H⟩ := H
  obtain ⟨F5, H⟩ := H
  show cd_W X m_Oct_putName kc ks 22 [some (.ref a0), some (.ref v1), some (.int v2)] [.int x4, .int v2] h3 Q
  refine cd_icmp_ge (tgt := 40) d_Oct_putName_22 (by decide) (fun t6 => ?_) (fun t6 => ?_)
  · replace H := H.1 t6
    exact cd_vret d_Oct_putName_40 rfl H
  · replace H := H.2 t6
    refine cd_aload_n (i := 0) (v := .ref a0) d_Oct_putName_25 rfl rfl (cd_isr_ref _) ?_
    refine cd_aload_n (i := 1) (v := .ref v1) d_Oct_putName_26 rfl rfl (cd_isr_ref _) ?_
    refine cd_iload_n (i := 2) d_Oct_putName_27 rfl rfl ?_
    obtain ⟨c7, H⟩ := H
    refine cd_callV (kc := kc) (ks := ks) (kc' := 0) (ks' := 0) (As := [.int v2]) (S := [.ref a0]) d_Oct_putName_28 ca_Oct_putName_33 c7 rfl (Nat.le_of_ble_eq_true rfl) (Nat.le_of_ble_eq_true rfl) ?_
    refine cd_W.mono (fun r8 h9 H => ?_) H
    obtain ⟨x10, rfl, H⟩ := H
    obtain ⟨F11, H⟩ := H
    show cd_W X m_Oct_putName kc ks 31 [some (.ref a0), some (.ref v1), some (.int v2)] [.int x10, .ref a0] h9 Q
    obtain ⟨c12, H⟩ := H
    refine cd_callV (kc := kc) (ks := ks) (kc' := 0) (ks' := 0) (As := [.int x10]) (S := []) d_Oct_putName_31 ca_Oct_putName_19 c12 rfl (Nat.le_of_ble_eq_true rfl) (Nat.le_of_ble_eq_true rfl) ?_
    refine cd_W.mono (fun r13 h14 H => ?_) H
    obtain ⟨rfl, H⟩ := H
    obtain ⟨F15, H⟩ := H
    show cd_W X m_Oct_putName kc ks 34 [some (.ref a0), some (.ref v1), some (.int v2)] [] h14 Q
    refine cd_iinc (i := 2) (v := (v2 + 1)) d_Oct_putName_34 rfl (cd_inc1 _) (by decide) ?_
    show cd_W X m_Oct_putName kc ks 37 [some (.ref a0), some (.ref v1), some (.int (v2 + 1))] [] h14 Q
    refine cd_goto (tgt := 17) d_Oct_putName_37 (by decide) ?_
    exact H

abbrev m_Oct_putSeal : cd_M := (⟨"CertificateDesk$Octets", "putSeal", "(I)V"⟩, prog_10_method_7_code, 2, none, 3, 64)
theorem d_Oct_putSeal_0 : decode prog_10_method_7_code 0 = .ok (.aload_n 0, 1) := by decide +kernel
theorem d_Oct_putSeal_1 : decode prog_10_method_7_code 1 = .ok (.iconst 3, 1) := by decide +kernel
theorem d_Oct_putSeal_2 : decode prog_10_method_7_code 2 = .ok (.invokevirtual 19, 3) := by decide +kernel
theorem ca_Oct_putSeal_19 {X : cd_E} : cd_CV X m_Oct_putSeal m_Oct_put 19 1 7 := ⟨⟨by decide, kw_4_85, kw_1_28, ⟨by decide, by decide, by decide +kernel⟩, by decide, by decide⟩, ⟨_, rfl, rfl⟩, kw_4_84, kp_31, (Or.inl kw_4_82)⟩
theorem d_Oct_putSeal_5 : decode prog_10_method_7_code 5 = .ok (.aload_n 0, 1) := by decide +kernel
theorem d_Oct_putSeal_6 : decode prog_10_method_7_code 6 = .ok (.iconst 5, 1) := by decide +kernel
theorem d_Oct_putSeal_7 : decode prog_10_method_7_code 7 = .ok (.invokevirtual 19, 3) := by decide +kernel
theorem d_Oct_putSeal_10 : decode prog_10_method_7_code 10 = .ok (.aload_n 0, 1) := by decide +kernel
theorem d_Oct_putSeal_11 : decode prog_10_method_7_code 11 = .ok (.iconst 0, 1) := by decide +kernel
theorem d_Oct_putSeal_12 : decode prog_10_method_7_code 12 = .ok (.invokevirtual 19, 3) := by decide +kernel
theorem d_Oct_putSeal_15 : decode prog_10_method_7_code 15 = .ok (.aload_n 0, 1) := by decide +kernel
theorem d_Oct_putSeal_16 : decode prog_10_method_7_code 16 = .ok (.iload_n 1, 1) := by decide +kernel
theorem d_Oct_putSeal_17 : decode prog_10_method_7_code 17 = .ok (.iconst 4, 1) := by decide +kernel
theorem d_Oct_putSeal_18 : decode prog_10_method_7_code 18 = .ok (.invokevirtual 23, 3) := by decide +kernel
theorem ca_Oct_putSeal_23 {X : cd_E} : cd_CV X m_Oct_putSeal m_Oct_putHighestFirst 23 2 7 := ⟨⟨by decide, kw_4_93, kw_1_28, ⟨by decide, by decide, by decide +kernel⟩, by decide, by decide⟩, ⟨_, rfl, rfl⟩, kw_4_92, kp_32, (Or.inl kw_4_90)⟩
theorem d_Oct_putSeal_21 : decode prog_10_method_7_code 21 = .ok (.return_, 1) := by decide +kernel
theorem g_Oct_putSeal {X : cd_E} {kc ks : Nat} {h : cd_H} {Q : Option Value → cd_H → Prop} {a0 : Nat} {p1 : Int32} (F : cc_ok h) (H : (cd_k h a0 = some (.inl 7)) ∧ (cd_W X m_Oct_put 0 0 0 [some (.ref a0), some (.int 3)] [] h (fun r2 h3 => (r2 = none) ∧ ((cc_ok h3) ∧ ((cd_k h3 a0 = some (.inl 7)) ∧ (cd_W X m_Oct_put 0 0 0 [some (.ref a0), some (.int 5)] [] h3 (fun r6 h7 => (r6 = none) ∧ ((cc_ok h7) ∧ ((cd_k h7 a0 = some (.inl 7)) ∧ (cd_W X m_Oct_put 0 0 0 [some (.ref a0), some (.int 0)] [] h7 (fun r10 h11 => (r10 = none) ∧ ((cc_ok h11) ∧ ((cd_k h11 a0 = some (.inl 7)) ∧ (cd_W X m_Oct_putHighestFirst 0 0 0 [some (.ref a0), some (.int p1), some (.int 4), none] [] h11 (fun r14 h15 => (r14 = none) ∧ ((cc_ok h15) ∧ (Q none h15))))))))))))))))) : cd_W X m_Oct_putSeal kc ks 0 [some (.ref a0), some (.int p1)] [] h Q := by
  refine cd_aload_n (i := 0) (v := .ref a0) d_Oct_putSeal_0 rfl rfl (cd_isr_ref _) ?_
  refine cd_iconst (v := 3) d_Oct_putSeal_1 (by decide) ?_
  obtain ⟨c1, H⟩ := H
  refine cd_callV (kc := kc) (ks := ks) (kc' := 0) (ks' := 0) (As := [.int 3]) (S := []) d_Oct_putSeal_2 ca_Oct_putSeal_19 c1 rfl (Nat.le_of_ble_eq_true rfl) (Nat.le_of_ble_eq_true rfl) ?_
  refine cd_W.mono (fun r2 h3 H => ?_) H
  obtain ⟨rfl, H⟩ := H
  obtain ⟨F4, H⟩ := H
  show cd_W X m_Oct_putSeal kc ks 5 [some (.ref a0), some (.int p1)] [] h3 Q
  refine cd_aload_n (i := 0) (v := .ref a0) d_Oct_putSeal_5 rfl rfl (cd_isr_ref _) ?_
  refine cd_iconst (v := 5) d_Oct_putSeal_6 (by decide) ?_
  obtain ⟨c5, H⟩ := H
  refine cd_callV (kc := kc) (ks := ks) (kc' := 0) (ks' := 0) (As := [.int 5]) (S := []) d_Oct_putSeal_7 ca_Oct_putSeal_19 c5 rfl (Nat.le_of_ble_eq_true rfl) (Nat.le_of_ble_eq_true rfl) ?_
  refine cd_W.mono (fun r6 h7 H => ?_) H
  obtain ⟨rfl, H⟩ := H
  obtain ⟨F8, H⟩ := H
  show cd_W X m_Oct_putSeal kc ks 10 [some (.ref a0), some (.int p1)] [] h7 Q
  refine cd_aload_n (i := 0) (v := .ref a0) d_Oct_putSeal_10 rfl rfl (cd_isr_ref _) ?_
  refine cd_iconst (v := 0) d_Oct_putSeal_11 (by decide) ?_
  obtain ⟨c9, H⟩ := H
  refine cd_callV (kc := kc) (ks := ks) (kc' := 0) (ks' := 0) (As := [.int 0]) (S := []) d_Oct_putSeal_12 ca_Oct_putSeal_19 c9 rfl (Nat.le_of_ble_eq_true rfl) (Nat.le_of_ble_eq_true rfl) ?_
  refine cd_W.mono (fun r10 h11 H => ?_) H
  obtain ⟨rfl, H⟩ := H
  obtain ⟨F12, H⟩ := H
  show cd_W X m_Oct_putSeal kc ks 15 [some (.ref a0), some (.int p1)] [] h11 Q
  refine cd_aload_n (i := 0) (v := .ref a0) d_Oct_putSeal_15 rfl rfl (cd_isr_ref _) ?_
  refine cd_iload_n (i := 1) d_Oct_putSeal_16 rfl rfl ?_
  refine cd_iconst (v := 4) d_Oct_putSeal_17 (by decide) ?_
  obtain ⟨c13, H⟩ := H
  refine cd_callV (kc := kc) (ks := ks) (kc' := 0) (ks' := 0) (As := [.int p1, .int 4]) (S := []) d_Oct_putSeal_18 ca_Oct_putSeal_23 c13 rfl (Nat.le_of_ble_eq_true rfl) (Nat.le_of_ble_eq_true rfl) ?_
  refine cd_W.mono (fun r14 h15 H => ?_) H
  obtain ⟨rfl, H⟩ := H
  obtain ⟨F16, H⟩ := H
  show cd_W X m_Oct_putSeal kc ks 21 [some (.ref a0), some (.int p1)] [] h15 Q
  exact cd_vret d_Oct_putSeal_21 rfl H

abbrev m_Oct_digestFrom : cd_M := (⟨"CertificateDesk$Octets", "digestFrom", "(I)I"⟩, prog_10_method_8_code, 4, some .int, 2, 41)
theorem d_Oct_digestFrom_0 : decode prog_10_method_8_code 0 = .ok (.bipush 7, 2) := by decide +kernel
theorem d_Oct_digestFrom_2 : decode prog_10_method_8_code 2 = .ok (.istore_n 2, 1) := by decide +kernel
theorem d_Oct_digestFrom_3 : decode prog_10_method_8_code 3 = .ok (.iload_n 1, 1) := by decide +kernel
theorem d_Oct_digestFrom_4 : decode prog_10_method_8_code 4 = .ok (.istore_n 3, 1) := by decide +kernel
theorem g_Oct_digestFrom {X : cd_E} {kc ks : Nat} {h : cd_H} {Q : Option Value → cd_H → Prop} {a0 : Nat} {p1 : Int32} (F : cc_ok h) (H : cd_W X m_Oct_digestFrom kc ks 5 [some (.ref a0), none, some (.int 7), some (.int p1)] [] h Q) : cd_W X m_Oct_digestFrom kc ks 0 [some (.ref a0), some (.int p1), none, none] [] h Q := by
  refine cd_bipush (v := 7) d_Oct_digestFrom_0 (by decide) ?_
  refine cd_istore_n (i := 2) d_Oct_digestFrom_2 rfl (by decide) ?_
  show cd_W X m_Oct_digestFrom kc ks 3 [some (.ref a0), some (.int p1), some (.int 7), none] [] h Q
  refine cd_iload_n (i := 1) d_Oct_digestFrom_3 rfl rfl ?_
  refine cd_istore_n (i := 3) d_Oct_digestFrom_4 rfl (by decide) ?_
  show cd_W X m_Oct_digestFrom kc ks 5 [some (.ref a0), some (.int p1), some (.int 7), some (.int p1)] [] h Q
  refine cd_W.drop (i := 1) ?_
  exact H

theorem d_Oct_digestFrom_5 : decode prog_10_method_8_code 5 = .ok (.iload_n 3, 1) := by decide +kernel
theorem d_Oct_digestFrom_6 : decode prog_10_method_8_code 6 = .ok (.aload_n 0, 1) := by decide +kernel
theorem d_Oct_digestFrom_7 : decode prog_10_method_8_code 7 = .ok (.getfield 15, 3) := by decide +kernel
theorem d_Oct_digestFrom_10 : decode prog_10_method_8_code 10 = .ok (.if_icmp .ge 19, 3) := by decide +kernel
theorem d_Oct_digestFrom_29 : decode prog_10_method_8_code 29 = .ok (.iload_n 2, 1) := by decide +kernel
theorem d_Oct_digestFrom_30 : decode prog_10_method_8_code 30 = .ok (.ireturn, 1) := by decide +kernel
theorem d_Oct_digestFrom_13 : decode prog_10_method_8_code 13 = .ok (.iload_n 2, 1) := by decide +kernel
theorem d_Oct_digestFrom_14 : decode prog_10_method_8_code 14 = .ok (.aload_n 0, 1) := by decide +kernel
theorem d_Oct_digestFrom_15 : decode prog_10_method_8_code 15 = .ok (.iload_n 3, 1) := by decide +kernel
theorem d_Oct_digestFrom_16 : decode prog_10_method_8_code 16 = .ok (.invokevirtual 39, 3) := by decide +kernel
theorem kw_4_108 : (Jvm.Cond.methodLink "CertificateDesk$Octets" (39 : Nat) ({ cls := "CertificateDesk$Octets", name := "at", desc := "(I)I" } : Jvm.MethodName)) ∈ cd_tbl := tb_4 (List.mem_of_getElem? (i := 108) (by decide +kernel)) (by decide)
theorem kw_4_111 : (Jvm.Cond.code ({ cls := "CertificateDesk$Octets", name := "at", desc := "(I)I" } : Jvm.MethodName) prog_10_method_2_code (2 : Nat) (Option.some Jvm.ClassFile.FieldType.int)) ∈ cd_tbl := tb_4 (List.mem_of_getElem? (i := 111) (by decide +kernel)) (by decide)
theorem kw_4_109 : (Jvm.Cond.instanceMethod ({ cls := "CertificateDesk$Octets", name := "at", desc := "(I)I" } : Jvm.MethodName)) ∈ cd_tbl := tb_4 (List.mem_of_getElem? (i := 109) (by decide +kernel)) (by decide)
theorem kw_4_110 : (Jvm.Cond.selects "CertificateDesk$Octets" ({ cls := "CertificateDesk$Octets", name := "at", desc := "(I)I" } : Jvm.MethodName) ({ cls := "CertificateDesk$Octets", name := "at", desc := "(I)I" } : Jvm.MethodName)) ∈ cd_tbl := tb_4 (List.mem_of_getElem? (i := 110) (by decide +kernel)) (by decide)
theorem ca_Oct_digestFrom_39 {X : cd_E} : cd_CV X m_Oct_digestFrom m_Oct_at 39 1 7 := ⟨⟨by decide, kw_4_111, kw_1_28, ⟨by decide, by decide, by decide +kernel⟩, by decide, by decide⟩, ⟨_, rfl, rfl⟩, kw_4_109, kw_4_110, (Or.inl kw_4_108)⟩
theorem d_Oct_digestFrom_19 : decode prog_10_method_8_code 19 = .ok (.invokestatic 43, 3) := by decide +kernel
theorem kw_4_112 : (Jvm.Cond.methodLink "CertificateDesk$Octets" (43 : Nat) ({ cls := "CertificateDesk$Digest", name := "with", desc := "(II)I" } : Jvm.MethodName)) ∈ cd_tbl := tb_4 (List.mem_of_getElem? (i := 112) (by decide +kernel)) (by decide)
theorem ca_Oct_digestFrom_43 {X : cd_E} : cd_CS X m_Oct_digestFrom m_Dig_with 43 2 := ⟨⟨by decide, kw_1_223, kw_1_11, ⟨by decide, by decide, by decide +kernel⟩, by decide, by decide⟩, kw_1_222, (Or.inl kw_4_112)⟩
theorem d_Oct_digestFrom_22 : decode prog_10_method_8_code 22 = .ok (.istore_n 2, 1) := by decide +kernel
theorem d_Oct_digestFrom_23 : decode prog_10_method_8_code 23 = .ok (.iinc 3 1, 3) := by decide +kernel
theorem d_Oct_digestFrom_26 : decode prog_10_method_8_code 26 = .ok (.goto (-21), 3) := by decide +kernel
theorem g_Oct_digestFrom_5 {X : cd_E} {kc ks : Nat} {h : cd_H} {Q : Option Value → cd_H → Prop} {a0 : Nat} {v2 : Int32} {v3 : Int32} (F : cc_ok h) (H : (cd_k h a0 = some (.inl 7)) ∧ (((((cd_i h a0 1) ≤ v3) → (Q (some (.int v2)) h)) ∧ ((¬ (cd_i h a0 1) ≤ v3) → (cd_W X m_Oct_at 0 0 0 [some (.ref a0), some (.int v3)] [] h (fun r3 h4 => ∃ x5 : Int32, r3 = some (.int x5) ∧ ((cc_ok h4) ∧ (cd_W X m_Dig_with 0 0 0 [some (.int v2), some (.int x5)] [] h4 (fun r7 h8 => ∃ x9 : Int32, r7 = some (.int x9) ∧ ((cc_ok h8) ∧ (cd_W X m_Oct_digestFrom kc ks 5 [some (.ref a0), none, some (.int x9), some (.int (v3 + 1))] [] h8 Q))))))))))) : cd_W X m_Oct_digestFrom kc ks 5 [some (.ref a0), none, some (.int v2), some (.int v3)] [] h Q := by
  refine cd_iload_n (i := 3) d_Oct_digestFrom_5 rfl rfl ?_
  refine cd_aload_n (i := 0) (v := .ref a0) d_Oct_digestFrom_6 rfl rfl (cd_isr_ref _) ?_
  obtain ⟨c1, H⟩ := H
  refine cd_get (v := .int (cd_i h a0 1)) d_Oct_digestFrom_7 fl_Oct_15 c1 rfl ?_
  refine cd_icmp_ge (tgt := 29) d_Oct_digestFrom_10 (by decide) (fun t2 => ?_) (fun t2 => ?_)
  · replace H := H.1 t2
    refine cd_iload_n (i := 2) d_Oct_digestFrom_29 rfl rfl ?_
    exact cd_iret d_Oct_digestFrom_30 rfl rfl H
  · replace H := H.2 t2
    refine cd_iload_n (i := 2) d_Oct_digestFrom_13 rfl rfl ?_
    refine cd_aload_n (i := 0) (v := .ref a0) d_Oct_digestFrom_14 rfl rfl (cd_isr_ref _) ?_
    refine cd_iload_n (i := 3) d_Oct_digestFrom_15 rfl rfl ?_
    refine cd_callV (kc := kc) (ks := ks) (kc' := 0) (ks' := 0) (As := [.int v3]) (S := [.int v2]) d_Oct_digestFrom_16 ca_Oct_digestFrom_39 c1 rfl (Nat.le_of_ble_eq_true rfl) (Nat.le_of_ble_eq_true rfl) ?_
    refine cd_W.mono (fun r3 h4 H => ?_) H
    obtain ⟨x5, rfl, H⟩ := H
    obtain ⟨F6, H⟩ := H
    show cd_W X m_Oct_digestFrom kc ks 19 [some (.ref a0), none, some (.int v2), some (.int v3)] [.int x5, .int v2] h4 Q
    refine cd_callS (kc := kc) (ks := ks) (kc' := 0) (ks' := 0) (As := [.int v2, .int x5]) (S := []) d_Oct_digestFrom_19 ca_Oct_digestFrom_43 rfl (Nat.le_of_ble_eq_true rfl) (Nat.le_of_ble_eq_true rfl) ?_
    refine cd_W.mono (fun r7 h8 H => ?_) H
    obtain ⟨x9, rfl, H⟩ := H
    obtain ⟨F10, H⟩ := H
    show cd_W X m_Oct_digestFrom kc ks 22 [some (.ref a0), none, some (.int v2), some (.int v3)] [.int x9] h8 Q
    refine cd_istore_n (i := 2) d_Oct_digestFrom_22 rfl (by decide) ?_
    show cd_W X m_Oct_digestFrom kc ks 23 [some (.ref a0), none, some (.int x9), some (.int v3)] [] h8 Q
    refine cd_iinc (i := 3) (v := (v3 + 1)) d_Oct_digestFrom_23 rfl (cd_inc1 _) (by decide) ?_
    show cd_W X m_Oct_digestFrom kc ks 26 [some (.ref a0), none, some (.int x9), some (.int (v3 + 1))] [] h8 Q
    refine cd_goto (tgt := 5) d_Oct_digestFrom_26 (by decide) ?_
    exact H

theorem d_Oct_putHighestFirst_0 : decode prog_10_method_9_code 0 = .ok (.iload_n 2, 1) := by decide +kernel
theorem d_Oct_putHighestFirst_1 : decode prog_10_method_9_code 1 = .ok (.iconst 1, 1) := by decide +kernel
theorem d_Oct_putHighestFirst_2 : decode prog_10_method_9_code 2 = .ok (.isub, 1) := by decide +kernel
theorem d_Oct_putHighestFirst_3 : decode prog_10_method_9_code 3 = .ok (.istore_n 3, 1) := by decide +kernel
theorem g_Oct_putHighestFirst {X : cd_E} {kc ks : Nat} {h : cd_H} {Q : Option Value → cd_H → Prop} {a0 : Nat} {p1 : Int32} {p2 : Int32} (F : cc_ok h) (H : cd_W X m_Oct_putHighestFirst kc ks 4 [some (.ref a0), some (.int p1), none, some (.int (p2 - 1))] [] h Q) : cd_W X m_Oct_putHighestFirst kc ks 0 [some (.ref a0), some (.int p1), some (.int p2), none] [] h Q := by
  refine cd_iload_n (i := 2) d_Oct_putHighestFirst_0 rfl rfl ?_
  refine cd_iconst (v := 1) d_Oct_putHighestFirst_1 (by decide) ?_
  refine cd_isub d_Oct_putHighestFirst_2 ?_
  refine cd_istore_n (i := 3) d_Oct_putHighestFirst_3 rfl (by decide) ?_
  show cd_W X m_Oct_putHighestFirst kc ks 4 [some (.ref a0), some (.int p1), some (.int p2), some (.int (p2 - 1))] [] h Q
  refine cd_W.drop (i := 2) ?_
  exact H

theorem d_Oct_putHighestFirst_4 : decode prog_10_method_9_code 4 = .ok (.iload_n 3, 1) := by decide +kernel
theorem d_Oct_putHighestFirst_5 : decode prog_10_method_9_code 5 = .ok (.ifCond .lt 23, 3) := by decide +kernel
theorem d_Oct_putHighestFirst_28 : decode prog_10_method_9_code 28 = .ok (.return_, 1) := by decide +kernel
theorem d_Oct_putHighestFirst_8 : decode prog_10_method_9_code 8 = .ok (.aload_n 0, 1) := by decide +kernel
theorem d_Oct_putHighestFirst_9 : decode prog_10_method_9_code 9 = .ok (.iload_n 1, 1) := by decide +kernel
theorem d_Oct_putHighestFirst_10 : decode prog_10_method_9_code 10 = .ok (.bipush 8, 2) := by decide +kernel
theorem d_Oct_putHighestFirst_12 : decode prog_10_method_9_code 12 = .ok (.iload_n 3, 1) := by decide +kernel
theorem d_Oct_putHighestFirst_13 : decode prog_10_method_9_code 13 = .ok (.imul, 1) := by decide +kernel
theorem d_Oct_putHighestFirst_14 : decode prog_10_method_9_code 14 = .ok (.ishr, 1) := by decide +kernel
theorem d_Oct_putHighestFirst_15 : decode prog_10_method_9_code 15 = .ok (.sipush 255, 3) := by decide +kernel
theorem d_Oct_putHighestFirst_18 : decode prog_10_method_9_code 18 = .ok (.iand, 1) := by decide +kernel
theorem d_Oct_putHighestFirst_19 : decode prog_10_method_9_code 19 = .ok (.invokevirtual 19, 3) := by decide +kernel
theorem ca_Oct_putHighestFirst_19 {X : cd_E} : cd_CV X m_Oct_putHighestFirst m_Oct_put 19 1 7 := ⟨⟨by decide, kw_4_85, kw_1_28, ⟨by decide, by decide, by decide +kernel⟩, by decide, by decide⟩, ⟨_, rfl, rfl⟩, kw_4_84, kp_31, (Or.inl kw_4_82)⟩
theorem d_Oct_putHighestFirst_22 : decode prog_10_method_9_code 22 = .ok (.iinc 3 (-1), 3) := by decide +kernel
theorem d_Oct_putHighestFirst_25 : decode prog_10_method_9_code 25 = .ok (.goto (-21), 3) := by decide +kernel
theorem g_Oct_putHighestFirst_4 {X : cd_E} {kc ks : Nat} {h : cd_H} {Q : Option Value → cd_H → Prop} {a0 : Nat} {v1 : Int32} {v3 : Int32} (F : cc_ok h) (H : (((v3 < 0) → (Q none h)) ∧ ((¬ v3 < 0) → ((cd_k h a0 = some (.inl 7)) ∧ (cd_W X m_Oct_put 0 0 0 [some (.ref a0), some (.int ((v1 >>> ((8 * v3) &&& 31)) &&& 255))] [] h (fun r3 h4 => (r3 = none) ∧ ((cc_ok h4) ∧ (cd_W X m_Oct_putHighestFirst kc ks 4 [some (.ref a0), some (.int v1), none, some (.int (v3 + (-1)))] [] h4 Q)))))))) : cd_W X m_Oct_putHighestFirst kc ks 4 [some (.ref a0), some (.int v1), none, some (.int v3)] [] h Q := by
  refine cd_iload_n (i := 3) d_Oct_putHighestFirst_4 rfl rfl ?_
  refine cd_if_lt (tgt := 28) d_Oct_putHighestFirst_5 (by decide) (fun t1 => ?_) (fun t1 => ?_)
  · replace H := H.1 t1
    exact cd_vret d_Oct_putHighestFirst_28 rfl H
  · replace H := H.2 t1
    refine cd_aload_n (i := 0) (v := .ref a0) d_Oct_putHighestFirst_8 rfl rfl (cd_isr_ref _) ?_
    refine cd_iload_n (i := 1) d_Oct_putHighestFirst_9 rfl rfl ?_
    refine cd_bipush (v := 8) d_Oct_putHighestFirst_10 (by decide) ?_
    refine cd_iload_n (i := 3) d_Oct_putHighestFirst_12 rfl rfl ?_
    refine cd_imul d_Oct_putHighestFirst_13 ?_
    refine cd_ishr d_Oct_putHighestFirst_14 ?_
    refine cd_sipush (v := 255) d_Oct_putHighestFirst_15 (by decide) ?_
    refine cd_iand d_Oct_putHighestFirst_18 ?_
    obtain ⟨c2, H⟩ := H
    refine cd_callV (kc := kc) (ks := ks) (kc' := 0) (ks' := 0) (As := [.int ((v1 >>> ((8 * v3) &&& 31)) &&& 255)]) (S := []) d_Oct_putHighestFirst_19 ca_Oct_putHighestFirst_19 c2 rfl (Nat.le_of_ble_eq_true rfl) (Nat.le_of_ble_eq_true rfl) ?_
    refine cd_W.mono (fun r3 h4 H => ?_) H
    obtain ⟨rfl, H⟩ := H
    obtain ⟨F5, H⟩ := H
    show cd_W X m_Oct_putHighestFirst kc ks 22 [some (.ref a0), some (.int v1), none, some (.int v3)] [] h4 Q
    refine cd_iinc (i := 3) (v := (v3 + (-1))) d_Oct_putHighestFirst_22 rfl (cd_incm1 _) (by decide) ?_
    show cd_W X m_Oct_putHighestFirst kc ks 25 [some (.ref a0), some (.int v1), none, some (.int (v3 + (-1)))] [] h4 Q
    refine cd_goto (tgt := 4) d_Oct_putHighestFirst_25 (by decide) ?_
    exact H

theorem d_Oct_put_0 : decode prog_10_method_10_code 0 = .ok (.aload_n 0, 1) := by decide +kernel
theorem d_Oct_put_1 : decode prog_10_method_10_code 1 = .ok (.getfield 15, 3) := by decide +kernel
theorem d_Oct_put_4 : decode prog_10_method_10_code 4 = .ok (.bipush 80, 2) := by decide +kernel
theorem d_Oct_put_6 : decode prog_10_method_10_code 6 = .ok (.if_icmp .ge 23, 3) := by decide +kernel
theorem d_Oct_put_29 : decode prog_10_method_10_code 29 = .ok (.return_, 1) := by decide +kernel
theorem d_Oct_put_9 : decode prog_10_method_10_code 9 = .ok (.aload_n 0, 1) := by decide +kernel
theorem d_Oct_put_10 : decode prog_10_method_10_code 10 = .ok (.getfield 11, 3) := by decide +kernel
theorem d_Oct_put_13 : decode prog_10_method_10_code 13 = .ok (.aload_n 0, 1) := by decide +kernel
theorem d_Oct_put_14 : decode prog_10_method_10_code 14 = .ok (.getfield 15, 3) := by decide +kernel
theorem d_Oct_put_17 : decode prog_10_method_10_code 17 = .ok (.iload_n 1, 1) := by decide +kernel
theorem d_Oct_put_18 : decode prog_10_method_10_code 18 = .ok (.iastore, 1) := by decide +kernel
theorem d_Oct_put_19 : decode prog_10_method_10_code 19 = .ok (.aload_n 0, 1) := by decide +kernel
theorem d_Oct_put_20 : decode prog_10_method_10_code 20 = .ok (.dup, 1) := by decide +kernel
theorem d_Oct_put_21 : decode prog_10_method_10_code 21 = .ok (.getfield 15, 3) := by decide +kernel
theorem d_Oct_put_24 : decode prog_10_method_10_code 24 = .ok (.iconst 1, 1) := by decide +kernel
theorem d_Oct_put_25 : decode prog_10_method_10_code 25 = .ok (.iadd, 1) := by decide +kernel
theorem d_Oct_put_26 : decode prog_10_method_10_code 26 = .ok (.putfield 15, 3) := by decide +kernel
theorem fp_Oct_put_15 {X : cd_E} : cd_FP X m_Oct_put 15 7 1 .int := cd_FP.of cl_7 rfl rfl (by decide) kw_4_71 (Or.inl rfl) (Or.inl rfl)
theorem g_Oct_put {X : cd_E} {kc ks : Nat} {h : cd_H} {Q : Option Value → cd_H → Prop} {a0 : Nat} {p1 : Int32} (F : cc_ok h) (H : (cd_k h a0 = some (.inl 7)) ∧ ((((80 ≤ (cd_i h a0 1)) → (Q none h)) ∧ ((¬ 80 ≤ (cd_i h a0 1)) → ((∃ b3 : Nat, (cd_r h a0 0) = some b3 ∧ ((∃ n5 : Nat, cd_k h b3 = some (.inr (0, n5)) ∧ ((64 ≤ b3) ∧ ((vp_in (cd_i h a0 1) n5) ∧ ((64 ≤ a0) ∧ (Q none (cd_si (cd_si h b3 (cd_i h a0 1).toNatClampNeg p1) a0 1 ((cd_i (cd_si h b3 (cd_i h a0 1).toNatClampNeg p1) a0 1) + 1)))))))))))))) : cd_W X m_Oct_put kc ks 0 [some (.ref a0), some (.int p1)] [] h Q := by
  refine cd_aload_n (i := 0) (v := .ref a0) d_Oct_put_0 rfl rfl (cd_isr_ref _) ?_
  obtain ⟨c1, H⟩ := H
  refine cd_get (v := .int (cd_i h a0 1)) d_Oct_put_1 fl_Oct_15 c1 rfl ?_
  refine cd_bipush (v := 80) d_Oct_put_4 (by decide) ?_
  refine cd_icmp_ge (tgt := 29) d_Oct_put_6 (by decide) (fun t2 => ?_) (fun t2 => ?_)
  · replace H := H.1 t2
    exact cd_vret d_Oct_put_29 rfl H
  · replace H := H.2 t2
    refine cd_aload_n (i := 0) (v := .ref a0) d_Oct_put_9 rfl rfl (cd_isr_ref _) ?_
    refine cd_get (v := va_rf (cd_r h a0 0)) d_Oct_put_10 fl_Oct_11 c1 rfl ?_
    refine cd_aload_n (i := 0) (v := .ref a0) d_Oct_put_13 rfl rfl (cd_isr_ref _) ?_
    refine cd_get (v := .int (cd_i h a0 1)) d_Oct_put_14 fl_Oct_15 c1 rfl ?_
    refine cd_iload_n (i := 1) d_Oct_put_17 rfl rfl ?_
    obtain ⟨b3, e4, H⟩ := H
    rw [cd_rfs e4]
    obtain ⟨n5, c6, H⟩ := H
    obtain ⟨c7, H⟩ := H
    obtain ⟨c8, H⟩ := H
    refine cd_iasto (j := (cd_i h a0 1)) d_Oct_put_18 rfl c6 c7 c8 ?_
    refine cd_aload_n (i := 0) (v := .ref a0) d_Oct_put_19 rfl rfl (cd_isr_ref _) ?_
    refine cd_dup d_Oct_put_20 rfl ?_
    refine cd_get (v := .int (cd_i (cd_si h b3 (cd_i h a0 1).toNatClampNeg p1) a0 1)) d_Oct_put_21 fl_Oct_15 c1 rfl ?_
    refine cd_iconst (v := 1) d_Oct_put_24 (by decide) ?_
    refine cd_iadd d_Oct_put_25 ?_
    obtain ⟨c9, H⟩ := H
    refine cd_putI d_Oct_put_26 fp_Oct_put_15 (fun _ _ _ => rfl) c1 c9 rfl rfl ?_
    exact cd_vret d_Oct_put_29 rfl H

abbrev m_Fat_answer : cd_M := (⟨"CertificateDesk$Fate", "answer", "(I)I"⟩, prog_6_method_4_code, 2, some .int, 1, 20)
theorem d_Fat_answer_0 : decode prog_6_method_4_code 0 = .ok (.aload_n 0, 1) := by decide +kernel
theorem d_Fat_answer_1 : decode prog_6_method_4_code 1 = .ok (.getfield 41, 3) := by decide +kernel
theorem kw_6_209 : (Jvm.Cond.fieldLink "CertificateDesk$Fate" (41 : Nat) "CertificateDesk$Fate" "crash" "Z") ∈ cd_tbl := tb_6 (List.mem_of_getElem? (i := 209) (by decide +kernel)) (by decide)
theorem fl_Fat_41 {X : cd_E} : cd_FL X "CertificateDesk$Fate" 41 10 1 .boolean := cd_FL.of rfl rfl (by decide) kw_6_209 (Or.inl rfl)
theorem d_Fat_answer_4 : decode prog_6_method_4_code 4 = .ok (.ifCond .eq 6, 3) := by decide +kernel
theorem d_Fat_answer_10 : decode prog_6_method_4_code 10 = .ok (.aload_n 0, 1) := by decide +kernel
theorem d_Fat_answer_11 : decode prog_6_method_4_code 11 = .ok (.getfield 37, 3) := by decide +kernel
theorem kw_6_210 : (Jvm.Cond.fieldLink "CertificateDesk$Fate" (37 : Nat) "CertificateDesk$Fate" "change" "Z") ∈ cd_tbl := tb_6 (List.mem_of_getElem? (i := 210) (by decide +kernel)) (by decide)
theorem fl_Fat_37 {X : cd_E} : cd_FL X "CertificateDesk$Fate" 37 10 0 .boolean := cd_FL.of rfl rfl (by decide) kw_6_210 (Or.inl rfl)
theorem d_Fat_answer_14 : decode prog_6_method_4_code 14 = .ok (.ifCond .eq 7, 3) := by decide +kernel
theorem d_Fat_answer_21 : decode prog_6_method_4_code 21 = .ok (.bipush (-5), 2) := by decide +kernel
theorem d_Fat_answer_23 : decode prog_6_method_4_code 23 = .ok (.ireturn, 1) := by decide +kernel
theorem d_Fat_answer_17 : decode prog_6_method_4_code 17 = .ok (.iload_n 1, 1) := by decide +kernel
theorem d_Fat_answer_18 : decode prog_6_method_4_code 18 = .ok (.goto 5, 3) := by decide +kernel
theorem d_Fat_answer_7 : decode prog_6_method_4_code 7 = .ok (.bipush (-6), 2) := by decide +kernel
theorem d_Fat_answer_9 : decode prog_6_method_4_code 9 = .ok (.ireturn, 1) := by decide +kernel
theorem g_Fat_answer {X : cd_E} {kc ks : Nat} {h : cd_H} {Q : Option Value → cd_H → Prop} {a0 : Nat} {p1 : Int32} (F : cc_ok h) (H : (cd_k h a0 = some (.inl 10)) ∧ (((((cd_i h a0 1) = 0) → (((((cd_i h a0 0) = 0) → (Q (some (.int (-5))) h)) ∧ ((¬ (cd_i h a0 0) = 0) → (Q (some (.int p1)) h))))) ∧ ((¬ (cd_i h a0 1) = 0) → (Q (some (.int (-6))) h))))) : cd_W X m_Fat_answer kc ks 0 [some (.ref a0), some (.int p1)] [] h Q := by
  refine cd_aload_n (i := 0) (v := .ref a0) d_Fat_answer_0 rfl rfl (cd_isr_ref _) ?_
  obtain ⟨c1, H⟩ := H
  refine cd_get (v := .int (cd_i h a0 1)) d_Fat_answer_1 fl_Fat_41 c1 rfl ?_
  refine cd_if_eq (tgt := 10) d_Fat_answer_4 (by decide) (fun t2 => ?_) (fun t2 => ?_)
  · replace H := H.1 t2
    refine cd_aload_n (i := 0) (v := .ref a0) d_Fat_answer_10 rfl rfl (cd_isr_ref _) ?_
    refine cd_get (v := .int (cd_i h a0 0)) d_Fat_answer_11 fl_Fat_37 c1 rfl ?_
    refine cd_if_eq (tgt := 21) d_Fat_answer_14 (by decide) (fun t3 => ?_) (fun t3 => ?_)
    · replace H := H.1 t3
      refine cd_bipush (v := (-5)) d_Fat_answer_21 (by decide) ?_
      exact cd_iret d_Fat_answer_23 rfl rfl H
    · replace H := H.2 t3
      refine cd_iload_n (i := 1) d_Fat_answer_17 rfl rfl ?_
      refine cd_goto (tgt := 23) d_Fat_answer_18 (by decide) ?_
      exact cd_iret d_Fat_answer_23 rfl rfl H
  · replace H := H.2 t2
    refine cd_bipush (v := (-6)) d_Fat_answer_7 (by decide) ?_
    exact cd_iret d_Fat_answer_9 rfl rfl H

abbrev m_Sto_init : cd_M := (⟨"CertificateDesk$Store", "<init>", "()V"⟩, prog_12_method_1_code, 1, none, 1, 20)
theorem d_Sto_init_0 : decode prog_12_method_1_code 0 = .ok (.aload_n 0, 1) := by decide +kernel
theorem d_Sto_init_1 : decode prog_12_method_1_code 1 = .ok (.invokespecial 3, 3) := by decide +kernel
theorem kw_1_103 : (Jvm.Cond.methodLink "CertificateDesk$Store" (3 : Nat) ({ cls := "java/lang/Object", name := "<init>", desc := "()V" } : Jvm.MethodName)) ∈ cd_tbl := tb_1 (List.mem_of_getElem? (i := 103) (by decide +kernel)) (by decide)
theorem d_Sto_init_4 : decode prog_12_method_1_code 4 = .ok (.aload_n 0, 1) := by decide +kernel
theorem d_Sto_init_5 : decode prog_12_method_1_code 5 = .ok (.iconst 0, 1) := by decide +kernel
theorem d_Sto_init_6 : decode prog_12_method_1_code 6 = .ok (.putfield 9, 3) := by decide +kernel
theorem kw_1_104 : (Jvm.Cond.fieldLink "CertificateDesk$Store" (9 : Nat) "CertificateDesk$Store" "used" "I") ∈ cd_tbl := tb_1 (List.mem_of_getElem? (i := 104) (by decide +kernel)) (by decide)
theorem kw_1_108 : (Jvm.Cond.lays "CertificateDesk$Store" "CertificateDesk$Store" "used" "I") ∈ cd_tbl := tb_1 (List.mem_of_getElem? (i := 108) (by decide +kernel)) (by decide)
theorem kw_1_110 : (Jvm.Cond.lays "CertificateDesk$Store" "CertificateDesk$Store" "cut" "I") ∈ cd_tbl := tb_1 (List.mem_of_getElem? (i := 110) (by decide +kernel)) (by decide)
theorem kw_1_99 : (Jvm.Cond.instantiable "CertificateDesk$Store" (2 : Nat)) ∈ cd_tbl := tb_1 (List.mem_of_getElem? (i := 99) (by decide +kernel)) (by decide)
theorem kw_1_5 : (Jvm.Cond.initialized "CertificateDesk$Store") ∈ cd_tbl := tb_1 (List.mem_of_getElem? (i := 5) (by decide +kernel)) (by decide)
theorem cl_9 : cd_CL 9 2 := ⟨_, rfl, List.forall_mem_cons.mpr ⟨kw_1_108, List.forall_mem_cons.mpr ⟨kw_1_110, fun _ h => absurd h List.not_mem_nil⟩⟩, by decide +kernel, by decide +kernel, kw_1_99, kw_1_5, by decide +kernel⟩
theorem fp_Sto_init_9 {X : cd_E} : cd_FP X m_Sto_init 9 9 0 .int := cd_FP.of cl_9 rfl rfl (by decide) kw_1_104 (Or.inl rfl) (Or.inl rfl)
theorem d_Sto_init_9 : decode prog_12_method_1_code 9 = .ok (.aload_n 0, 1) := by decide +kernel
theorem d_Sto_init_10 : decode prog_12_method_1_code 10 = .ok (.iconst (-1), 1) := by decide +kernel
theorem d_Sto_init_11 : decode prog_12_method_1_code 11 = .ok (.putfield 15, 3) := by decide +kernel
theorem kw_1_106 : (Jvm.Cond.fieldLink "CertificateDesk$Store" (15 : Nat) "CertificateDesk$Store" "cut" "I") ∈ cd_tbl := tb_1 (List.mem_of_getElem? (i := 106) (by decide +kernel)) (by decide)
theorem fp_Sto_init_15 {X : cd_E} : cd_FP X m_Sto_init 15 9 1 .int := cd_FP.of cl_9 rfl rfl (by decide) kw_1_106 (Or.inl rfl) (Or.inl rfl)
theorem d_Sto_init_14 : decode prog_12_method_1_code 14 = .ok (.return_, 1) := by decide +kernel
theorem g_Sto_init {X : cd_E} {kc ks : Nat} {h : cd_H} {Q : Option Value → cd_H → Prop} {a0 : Nat} (H : (cd_k h a0 = some (.inl 9)) ∧ ((64 ≤ a0) ∧ (Q none (cd_si (cd_si h a0 0 0) a0 1 (-1))))) : cd_W X m_Sto_init kc ks 0 [some (.ref a0)] [] h Q := by
  refine cd_aload_n (i := 0) (v := .ref a0) d_Sto_init_0 rfl rfl (cd_isr_ref _) ?_
  refine cd_objInit d_Sto_init_1 kw_1_103 kw_1_35 kw_1_36 (by decide) (by decide) (Nat.le_of_ble_eq_true rfl) ?_
  refine cd_aload_n (i := 0) (v := .ref a0) d_Sto_init_4 rfl rfl (cd_isr_ref _) ?_
  refine cd_iconst (v := 0) d_Sto_init_5 (by decide) ?_
  obtain ⟨c1, H⟩ := H
  obtain ⟨c2, H⟩ := H
  refine cd_putI d_Sto_init_6 fp_Sto_init_9 (fun _ _ _ => rfl) c1 c2 rfl rfl ?_
  refine cd_aload_n (i := 0) (v := .ref a0) d_Sto_init_9 rfl rfl (cd_isr_ref _) ?_
  refine cd_iconst (v := (-1)) d_Sto_init_10 (by decide) ?_
  refine cd_putI d_Sto_init_11 fp_Sto_init_15 (fun _ _ _ => rfl) c1 c2 rfl rfl ?_
  exact cd_vret d_Sto_init_14 rfl H

abbrev m_Sto_put : cd_M := (⟨"CertificateDesk$Store", "put", "(I)LCertificateDesk$Fate;"⟩, prog_12_method_2_code, 4, some (.object "CertificateDesk$Fate"), 1, 20)
theorem d_Sto_put_0 : decode prog_12_method_2_code 0 = .ok (.aload_n 0, 1) := by decide +kernel
theorem d_Sto_put_1 : decode prog_12_method_2_code 1 = .ok (.getfield 9, 3) := by decide +kernel
theorem fl_Sto_9 {X : cd_E} : cd_FL X "CertificateDesk$Store" 9 9 0 .int := cd_FL.of rfl rfl (by decide) kw_1_104 (Or.inl rfl)
theorem d_Sto_put_4 : decode prog_12_method_2_code 4 = .ok (.iload_n 1, 1) := by decide +kernel
theorem d_Sto_put_5 : decode prog_12_method_2_code 5 = .ok (.iadd, 1) := by decide +kernel
theorem d_Sto_put_6 : decode prog_12_method_2_code 6 = .ok (.sipush 200, 3) := by decide +kernel
theorem d_Sto_put_9 : decode prog_12_method_2_code 9 = .ok (.if_icmp .le 7, 3) := by decide +kernel
theorem d_Sto_put_16 : decode prog_12_method_2_code 16 = .ok (.aload_n 0, 1) := by decide +kernel
theorem d_Sto_put_17 : decode prog_12_method_2_code 17 = .ok (.getfield 15, 3) := by decide +kernel
theorem fl_Sto_15 {X : cd_E} : cd_FL X "CertificateDesk$Store" 15 9 1 .int := cd_FL.of rfl rfl (by decide) kw_1_106 (Or.inl rfl)
theorem d_Sto_put_20 : decode prog_12_method_2_code 20 = .ok (.iconst (-1), 1) := by decide +kernel
theorem d_Sto_put_21 : decode prog_12_method_2_code 21 = .ok (.if_icmp .eq 11, 3) := by decide +kernel
theorem d_Sto_put_32 : decode prog_12_method_2_code 32 = .ok (.iconst 1, 1) := by decide +kernel
theorem d_Sto_put_33 : decode prog_12_method_2_code 33 = .ok (.goto 4, 3) := by decide +kernel
theorem d_Sto_put_37 : decode prog_12_method_2_code 37 = .ok (.istore_n 2, 1) := by decide +kernel
theorem d_Sto_put_38 : decode prog_12_method_2_code 38 = .ok (.aload_n 0, 1) := by decide +kernel
theorem d_Sto_put_39 : decode prog_12_method_2_code 39 = .ok (.getfield 15, 3) := by decide +kernel
theorem d_Sto_put_42 : decode prog_12_method_2_code 42 = .ok (.iconst (-1), 1) := by decide +kernel
theorem d_Sto_put_43 : decode prog_12_method_2_code 43 = .ok (.if_icmp .eq 7, 3) := by decide +kernel
theorem d_Sto_put_50 : decode prog_12_method_2_code 50 = .ok (.iconst 0, 1) := by decide +kernel
theorem d_Sto_put_51 : decode prog_12_method_2_code 51 = .ok (.istore_n 3, 1) := by decide +kernel
theorem d_Sto_put_52 : decode prog_12_method_2_code 52 = .ok (.aload_n 0, 1) := by decide +kernel
theorem d_Sto_put_53 : decode prog_12_method_2_code 53 = .ok (.iconst (-1), 1) := by decide +kernel
theorem d_Sto_put_54 : decode prog_12_method_2_code 54 = .ok (.putfield 15, 3) := by decide +kernel
theorem fp_Sto_put_15 {X : cd_E} : cd_FP X m_Sto_put 15 9 1 .int := cd_FP.of cl_9 rfl rfl (by decide) kw_1_106 (Or.inl rfl) (Or.inl rfl)
theorem d_Sto_put_57 : decode prog_12_method_2_code 57 = .ok (.iload_n 2, 1) := by decide +kernel
theorem d_Sto_put_58 : decode prog_12_method_2_code 58 = .ok (.ifCond .ne 7, 3) := by decide +kernel
theorem d_Sto_put_65 : decode prog_12_method_2_code 65 = .ok (.aload_n 0, 1) := by decide +kernel
theorem d_Sto_put_66 : decode prog_12_method_2_code 66 = .ok (.dup, 1) := by decide +kernel
theorem d_Sto_put_67 : decode prog_12_method_2_code 67 = .ok (.getfield 9, 3) := by decide +kernel
theorem d_Sto_put_70 : decode prog_12_method_2_code 70 = .ok (.iload_n 1, 1) := by decide +kernel
theorem d_Sto_put_71 : decode prog_12_method_2_code 71 = .ok (.iadd, 1) := by decide +kernel
theorem d_Sto_put_72 : decode prog_12_method_2_code 72 = .ok (.putfield 9, 3) := by decide +kernel
theorem fp_Sto_put_9 {X : cd_E} : cd_FP X m_Sto_put 9 9 0 .int := cd_FP.of cl_9 rfl rfl (by decide) kw_1_104 (Or.inl rfl) (Or.inl rfl)
theorem d_Sto_put_75 : decode prog_12_method_2_code 75 = .ok (.iload_n 3, 1) := by decide +kernel
theorem d_Sto_put_76 : decode prog_12_method_2_code 76 = .ok (.ifCond .eq 9, 3) := by decide +kernel
theorem d_Sto_put_85 : decode prog_12_method_2_code 85 = .ok (.getstatic 30, 3) := by decide +kernel
theorem kw_2_141 : (Jvm.Cond.fieldLink "CertificateDesk$Store" (30 : Nat) "CertificateDesk$Fate" "KEPT" "LCertificateDesk$Fate;") ∈ cd_tbl := tb_2 (List.mem_of_getElem? (i := 141) (by decide +kernel)) (by decide)
theorem d_Sto_put_88 : decode prog_12_method_2_code 88 = .ok (.areturn, 1) := by decide +kernel
theorem d_Sto_put_24 : decode prog_12_method_2_code 24 = .ok (.iload_n 1, 1) := by decide +kernel
theorem d_Sto_put_25 : decode prog_12_method_2_code 25 = .ok (.aload_n 0, 1) := by decide +kernel
theorem d_Sto_put_26 : decode prog_12_method_2_code 26 = .ok (.getfield 15, 3) := by decide +kernel
theorem d_Sto_put_29 : decode prog_12_method_2_code 29 = .ok (.if_icmp .gt 7, 3) := by decide +kernel
theorem d_Sto_put_36 : decode prog_12_method_2_code 36 = .ok (.iconst 0, 1) := by decide +kernel
theorem d_Sto_put_46 : decode prog_12_method_2_code 46 = .ok (.iconst 1, 1) := by decide +kernel
theorem d_Sto_put_47 : decode prog_12_method_2_code 47 = .ok (.goto 4, 3) := by decide +kernel
theorem d_Sto_put_61 : decode prog_12_method_2_code 61 = .ok (.getstatic 24, 3) := by decide +kernel
theorem kw_2_137 : (Jvm.Cond.fieldLink "CertificateDesk$Store" (24 : Nat) "CertificateDesk$Fate" "LOST" "LCertificateDesk$Fate;") ∈ cd_tbl := tb_2 (List.mem_of_getElem? (i := 137) (by decide +kernel)) (by decide)
theorem d_Sto_put_64 : decode prog_12_method_2_code 64 = .ok (.areturn, 1) := by decide +kernel
theorem d_Sto_put_79 : decode prog_12_method_2_code 79 = .ok (.getstatic 27, 3) := by decide +kernel
theorem kw_2_139 : (Jvm.Cond.fieldLink "CertificateDesk$Store" (27 : Nat) "CertificateDesk$Fate" "SAVED" "LCertificateDesk$Fate;") ∈ cd_tbl := tb_2 (List.mem_of_getElem? (i := 139) (by decide +kernel)) (by decide)
theorem d_Sto_put_82 : decode prog_12_method_2_code 82 = .ok (.goto 6, 3) := by decide +kernel
theorem d_Sto_put_12 : decode prog_12_method_2_code 12 = .ok (.getstatic 18, 3) := by decide +kernel
theorem kw_2_135 : (Jvm.Cond.fieldLink "CertificateDesk$Store" (18 : Nat) "CertificateDesk$Fate" "FULL" "LCertificateDesk$Fate;") ∈ cd_tbl := tb_2 (List.mem_of_getElem? (i := 135) (by decide +kernel)) (by decide)
theorem d_Sto_put_15 : decode prog_12_method_2_code 15 = .ok (.areturn, 1) := by decide +kernel
theorem g_Sto_put {X : cd_E} {kc ks : Nat} {h : cd_H} {Q : Option Value → cd_H → Prop} {p1 : Int32} (F : cc_ok h) (H : (((((cd_i h 76 0) + p1) ≤ 200) → (((((cd_i h 76 1) = (-1)) → (Q (some (.ref 4)) (cd_si (cd_si h 76 1 (-1)) 76 0 ((cd_i (cd_si h 76 1 (-1)) 76 0) + p1)))) ∧ ((¬ (cd_i h 76 1) = (-1)) → (((((cd_i h 76 1) < p1) → (Q (some (.ref 2)) (cd_si h 76 1 (-1)))) ∧ ((¬ (cd_i h 76 1) < p1) → (Q (some (.ref 3)) (cd_si (cd_si h 76 1 (-1)) 76 0 ((cd_i (cd_si h 76 1 (-1)) 76 0) + p1)))))))))) ∧ ((¬ ((cd_i h 76 0) + p1) ≤ 200) → (Q (some (.ref 1)) h)))) : cd_W X m_Sto_put kc ks 0 [some (.ref 76), some (.int p1), none, none] [] h Q := by
  refine cd_aload_n (i := 0) (v := .ref 76) d_Sto_put_0 rfl rfl (cd_isr_ref _) ?_
  refine cd_get (v := .int (cd_i h 76 0)) d_Sto_put_1 fl_Sto_9 (cc_k76 F) rfl ?_
  refine cd_iload_n (i := 1) d_Sto_put_4 rfl rfl ?_
  refine cd_iadd d_Sto_put_5 ?_
  refine cd_sipush (v := 200) d_Sto_put_6 (by decide) ?_
  refine cd_icmp_le (tgt := 16) d_Sto_put_9 (by decide) (fun t1 => ?_) (fun t1 => ?_)
  · replace H := H.1 t1
    refine cd_aload_n (i := 0) (v := .ref 76) d_Sto_put_16 rfl rfl (cd_isr_ref _) ?_
    refine cd_get (v := .int (cd_i h 76 1)) d_Sto_put_17 fl_Sto_15 (cc_k76 F) rfl ?_
    refine cd_iconst (v := (-1)) d_Sto_put_20 (by decide) ?_
    refine cd_icmp_eq (tgt := 32) d_Sto_put_21 (by decide) (fun t2 => ?_) (fun t2 => ?_)
    · replace H := H.1 t2
      refine cd_iconst (v := 1) d_Sto_put_32 (by decide) ?_
      refine cd_goto (tgt := 37) d_Sto_put_33 (by decide) ?_
      refine cd_istore_n (i := 2) d_Sto_put_37 rfl (by decide) ?_
      show cd_W X m_Sto_put kc ks 38 [some (.ref 76), some (.int p1), some (.int 1), none] [] h Q
      refine cd_aload_n (i := 0) (v := .ref 76) d_Sto_put_38 rfl rfl (cd_isr_ref _) ?_
      refine cd_get (v := .int (cd_i h 76 1)) d_Sto_put_39 fl_Sto_15 (cc_k76 F) rfl ?_
      refine cd_iconst (v := (-1)) d_Sto_put_42 (by decide) ?_
      refine cd_icmp_eq (tgt := 50) d_Sto_put_43 (by decide) (fun _ => ?_) (fun hc => absurd t2 hc)
      refine cd_iconst (v := 0) d_Sto_put_50 (by decide) ?_
      refine cd_istore_n (i := 3) d_Sto_put_51 rfl (by decide) ?_
      show cd_W X m_Sto_put kc ks 52 [some (.ref 76), some (.int p1), some (.int 1), some (.int 0)] [] h Q
      refine cd_aload_n (i := 0) (v := .ref 76) d_Sto_put_52 rfl rfl (cd_isr_ref _) ?_
      refine cd_iconst (v := (-1)) d_Sto_put_53 (by decide) ?_
      refine cd_putI d_Sto_put_54 fp_Sto_put_15 (fun _ _ _ => rfl) (cc_k76 F) (by decide) rfl rfl ?_
      refine cd_iload_n (i := 2) d_Sto_put_57 rfl rfl ?_
      refine cd_if_ne (tgt := 65) d_Sto_put_58 (by decide) (fun _ => ?_) (fun hc => absurd hc (by decide))
      refine cd_aload_n (i := 0) (v := .ref 76) d_Sto_put_65 rfl rfl (cd_isr_ref _) ?_
      refine cd_dup d_Sto_put_66 rfl ?_
      refine cd_get (v := .int (cd_i (cd_si h 76 1 (-1)) 76 0)) d_Sto_put_67 fl_Sto_9 (cc_k76 F) rfl ?_
      refine cd_iload_n (i := 1) d_Sto_put_70 rfl rfl ?_
      refine cd_iadd d_Sto_put_71 ?_
      refine cd_putI d_Sto_put_72 fp_Sto_put_9 (fun _ _ _ => rfl) (cc_k76 F) (by decide) rfl rfl ?_
      refine cd_iload_n (i := 3) d_Sto_put_75 rfl rfl ?_
      refine cd_if_eq (tgt := 85) d_Sto_put_76 (by decide) (fun _ => ?_) (fun hc => absurd (by decide) hc)
      refine cd_gets (v := .ref 4) d_Sto_put_85 (C := "CertificateDesk$Fate") (n := "KEPT") (d := "LCertificateDesk$Fate;") (ref := "CertificateDesk$Fate") (List.mem_of_getElem? (i := 4) rfl) kw_2_141 (Or.inl rfl) ?_
      exact cd_aret d_Sto_put_88 rfl (Or.inl ⟨_, rfl⟩) (cd_isr_ref _) H
    · replace H := H.2 t2
      refine cd_iload_n (i := 1) d_Sto_put_24 rfl rfl ?_
      refine cd_aload_n (i := 0) (v := .ref 76) d_Sto_put_25 rfl rfl (cd_isr_ref _) ?_
      refine cd_get (v := .int (cd_i h 76 1)) d_Sto_put_26 fl_Sto_15 (cc_k76 F) rfl ?_
      refine cd_icmp_gt (tgt := 36) d_Sto_put_29 (by decide) (fun t3 => ?_) (fun t3 => ?_)
      · replace H := H.1 t3
        refine cd_iconst (v := 0) d_Sto_put_36 (by decide) ?_
        refine cd_istore_n (i := 2) d_Sto_put_37 rfl (by decide) ?_
        show cd_W X m_Sto_put kc ks 38 [some (.ref 76), some (.int p1), some (.int 0), none] [] h Q
        refine cd_aload_n (i := 0) (v := .ref 76) d_Sto_put_38 rfl rfl (cd_isr_ref _) ?_
        refine cd_get (v := .int (cd_i h 76 1)) d_Sto_put_39 fl_Sto_15 (cc_k76 F) rfl ?_
        refine cd_iconst (v := (-1)) d_Sto_put_42 (by decide) ?_
        refine cd_icmp_eq (tgt := 50) d_Sto_put_43 (by decide) (fun hc => absurd hc t2) (fun _ => ?_)
        refine cd_iconst (v := 1) d_Sto_put_46 (by decide) ?_
        refine cd_goto (tgt := 51) d_Sto_put_47 (by decide) ?_
        refine cd_istore_n (i := 3) d_Sto_put_51 rfl (by decide) ?_
        show cd_W X m_Sto_put kc ks 52 [some (.ref 76), some (.int p1), some (.int 0), some (.int 1)] [] h Q
        refine cd_aload_n (i := 0) (v := .ref 76) d_Sto_put_52 rfl rfl (cd_isr_ref _) ?_
        refine cd_iconst (v := (-1)) d_Sto_put_53 (by decide) ?_
        refine cd_putI d_Sto_put_54 fp_Sto_put_15 (fun _ _ _ => rfl) (cc_k76 F) (by decide) rfl rfl ?_
        refine cd_iload_n (i := 2) d_Sto_put_57 rfl rfl ?_
        refine cd_if_ne (tgt := 65) d_Sto_put_58 (by decide) (fun hc => absurd (by decide) hc) (fun _ => ?_)
        refine cd_gets (v := .ref 2) d_Sto_put_61 (C := "CertificateDesk$Fate") (n := "LOST") (d := "LCertificateDesk$Fate;") (ref := "CertificateDesk$Fate") (List.mem_of_getElem? (i := 2) rfl) kw_2_137 (Or.inl rfl) ?_
        exact cd_aret d_Sto_put_64 rfl (Or.inl ⟨_, rfl⟩) (cd_isr_ref _) H
      · replace H := H.2 t3
        refine cd_iconst (v := 1) d_Sto_put_32 (by decide) ?_
        refine cd_goto (tgt := 37) d_Sto_put_33 (by decide) ?_
        refine cd_istore_n (i := 2) d_Sto_put_37 rfl (by decide) ?_
        show cd_W X m_Sto_put kc ks 38 [some (.ref 76), some (.int p1), some (.int 1), none] [] h Q
        refine cd_aload_n (i := 0) (v := .ref 76) d_Sto_put_38 rfl rfl (cd_isr_ref _) ?_
        refine cd_get (v := .int (cd_i h 76 1)) d_Sto_put_39 fl_Sto_15 (cc_k76 F) rfl ?_
        refine cd_iconst (v := (-1)) d_Sto_put_42 (by decide) ?_
        refine cd_icmp_eq (tgt := 50) d_Sto_put_43 (by decide) (fun hc => absurd hc t2) (fun _ => ?_)
        refine cd_iconst (v := 1) d_Sto_put_46 (by decide) ?_
        refine cd_goto (tgt := 51) d_Sto_put_47 (by decide) ?_
        refine cd_istore_n (i := 3) d_Sto_put_51 rfl (by decide) ?_
        show cd_W X m_Sto_put kc ks 52 [some (.ref 76), some (.int p1), some (.int 1), some (.int 1)] [] h Q
        refine cd_aload_n (i := 0) (v := .ref 76) d_Sto_put_52 rfl rfl (cd_isr_ref _) ?_
        refine cd_iconst (v := (-1)) d_Sto_put_53 (by decide) ?_
        refine cd_putI d_Sto_put_54 fp_Sto_put_15 (fun _ _ _ => rfl) (cc_k76 F) (by decide) rfl rfl ?_
        refine cd_iload_n (i := 2) d_Sto_put_57 rfl rfl ?_
        refine cd_if_ne (tgt := 65) d_Sto_put_58 (by decide) (fun _ => ?_) (fun hc => absurd hc (by decide))
        refine cd_aload_n (i := 0) (v := .ref 76) d_Sto_put_65 rfl rfl (cd_isr_ref _) ?_
        refine cd_dup d_Sto_put_66 rfl ?_
        refine cd_get (v := .int (cd_i (cd_si h 76 1 (-1)) 76 0)) d_Sto_put_67 fl_Sto_9 (cc_k76 F) rfl ?_
        refine cd_iload_n (i := 1) d_Sto_put_70 rfl rfl ?_
        refine cd_iadd d_Sto_put_71 ?_
        refine cd_putI d_Sto_put_72 fp_Sto_put_9 (fun _ _ _ => rfl) (cc_k76 F) (by decide) rfl rfl ?_
        refine cd_iload_n (i := 3) d_Sto_put_75 rfl rfl ?_
        refine cd_if_eq (tgt := 85) d_Sto_put_76 (by decide) (fun hc => absurd hc (by decide)) (fun _ => ?_)
        refine cd_gets (v := .ref 3) d_Sto_put_79 (C := "CertificateDesk$Fate") (n := "SAVED") (d := "LCertificateDesk$Fate;") (ref := "CertificateDesk$Fate") (List.mem_of_getElem? (i := 3) rfl) kw_2_139 (Or.inl rfl) ?_
        refine cd_goto (tgt := 88) d_Sto_put_82 (by decide) ?_
        exact cd_aret d_Sto_put_88 rfl (Or.inl ⟨_, rfl⟩) (cd_isr_ref _) H
  · replace H := H.2 t1
    refine cd_gets (v := .ref 1) d_Sto_put_12 (C := "CertificateDesk$Fate") (n := "FULL") (d := "LCertificateDesk$Fate;") (ref := "CertificateDesk$Fate") (List.mem_of_getElem? (i := 1) rfl) kw_2_135 (Or.inl rfl) ?_
    exact cd_aret d_Sto_put_15 rfl (Or.inl ⟨_, rfl⟩) (cd_isr_ref _) H

abbrev m_Desk_clientKey : cd_M := (⟨"CertificateDesk", "clientKey", "(I)LCertificateDesk$Key;"⟩, prog_1_method_21_code, 2, some (.object "CertificateDesk$Key"), 1, 20)
theorem d_Desk_clientKey_0 : decode prog_1_method_21_code 0 = .ok (.iload_n 1, 1) := by decide +kernel
theorem d_Desk_clientKey_1 : decode prog_1_method_21_code 1 = .ok (.ifCond .lt 17, 3) := by decide +kernel
theorem d_Desk_clientKey_18 : decode prog_1_method_21_code 18 = .ok (.aconst_null, 1) := by decide +kernel
theorem d_Desk_clientKey_19 : decode prog_1_method_21_code 19 = .ok (.areturn, 1) := by decide +kernel
theorem d_Desk_clientKey_4 : decode prog_1_method_21_code 4 = .ok (.iload_n 1, 1) := by decide +kernel
theorem d_Desk_clientKey_5 : decode prog_1_method_21_code 5 = .ok (.iconst 4, 1) := by decide +kernel
theorem d_Desk_clientKey_6 : decode prog_1_method_21_code 6 = .ok (.if_icmp .ge 12, 3) := by decide +kernel
theorem d_Desk_clientKey_9 : decode prog_1_method_21_code 9 = .ok (.aload_n 0, 1) := by decide +kernel
theorem d_Desk_clientKey_10 : decode prog_1_method_21_code 10 = .ok (.getfield 15, 3) := by decide +kernel
theorem kw_1_143 : (Jvm.Cond.fieldLink "CertificateDesk" (15 : Nat) "CertificateDesk" "clientKeys" "[LCertificateDesk$Key;") ∈ cd_tbl := tb_1 (List.mem_of_getElem? (i := 143) (by decide +kernel)) (by decide)
theorem fl_Desk_15 {X : cd_E} : cd_FL X "CertificateDesk" 15 0 1 (.array (.object "CertificateDesk$Key")) := cd_FL.of rfl rfl (by decide) kw_1_143 (Or.inl rfl)
theorem d_Desk_clientKey_13 : decode prog_1_method_21_code 13 = .ok (.iload_n 1, 1) := by decide +kernel
theorem d_Desk_clientKey_14 : decode prog_1_method_21_code 14 = .ok (.aaload, 1) := by decide +kernel
theorem d_Desk_clientKey_15 : decode prog_1_method_21_code 15 = .ok (.goto 4, 3) := by decide +kernel
theorem g_Desk_clientKey {X : cd_E} {kc ks : Nat} {h : cd_H} {Q : Option Value → cd_H → Prop} {p1 : Int32} (F : cc_ok h) (H : (((p1 < 0) → (Q (some (.null)) h)) ∧ ((¬ p1 < 0) → ((((4 ≤ p1) → (Q (some (.null)) h)) ∧ ((¬ 4 ≤ p1) → ((vp_in p1 4) ∧ (Q (some (va_rf (cd_r h 65 p1.toNatClampNeg))) h)))))))) : cd_W X m_Desk_clientKey kc ks 0 [some (.ref 64), some (.int p1)] [] h Q := by
  refine cd_iload_n (i := 1) d_Desk_clientKey_0 rfl rfl ?_
  refine cd_if_lt (tgt := 18) d_Desk_clientKey_1 (by decide) (fun t1 => ?_) (fun t1 => ?_)
  · replace H := H.1 t1
    refine cd_null d_Desk_clientKey_18 ?_
    exact cd_aret d_Desk_clientKey_19 rfl (Or.inl ⟨_, rfl⟩) cd_isr_null H
  · replace H := H.2 t1
    refine cd_iload_n (i := 1) d_Desk_clientKey_4 rfl rfl ?_
    refine cd_iconst (v := 4) d_Desk_clientKey_5 (by decide) ?_
    refine cd_icmp_ge (tgt := 18) d_Desk_clientKey_6 (by decide) (fun t2 => ?_) (fun t2 => ?_)
    · replace H := H.1 t2
      refine cd_null d_Desk_clientKey_18 ?_
      exact cd_aret d_Desk_clientKey_19 rfl (Or.inl ⟨_, rfl⟩) cd_isr_null H
    · replace H := H.2 t2
      refine cd_aload_n (i := 0) (v := .ref 64) d_Desk_clientKey_9 rfl rfl (cd_isr_ref _) ?_
      refine cd_get (v := .ref 65) d_Desk_clientKey_10 fl_Desk_15 (cc_k64 F) (congrArg va_rf (cc_r64_1 F)) ?_
      refine cd_iload_n (i := 1) d_Desk_clientKey_13 rfl rfl ?_
      obtain ⟨c3, H⟩ := H
      refine cd_aald (j := p1) d_Desk_clientKey_14 rfl (cc_k65 F) c3 ?_
      refine cd_goto (tgt := 19) d_Desk_clientKey_15 (by decide) ?_
      exact cd_aret d_Desk_clientKey_19 rfl (Or.inl ⟨_, rfl⟩) (cd_isr_rf _) H

abbrev m_Desk_accountAt : cd_M := (⟨"CertificateDesk", "accountAt", "(I)LCertificateDesk$Account;"⟩, prog_1_method_22_code, 2, some (.object "CertificateDesk$Account"), 11, 239)
theorem d_Desk_accountAt_0 : decode prog_1_method_22_code 0 = .ok (.iload_n 1, 1) := by decide +kernel
theorem d_Desk_accountAt_1 : decode prog_1_method_22_code 1 = .ok (.ifCond .lt 28, 3) := by decide +kernel
theorem d_Desk_accountAt_29 : decode prog_1_method_22_code 29 = .ok (.aconst_null, 1) := by decide +kernel
theorem d_Desk_accountAt_30 : decode prog_1_method_22_code 30 = .ok (.areturn, 1) := by decide +kernel
theorem d_Desk_accountAt_4 : decode prog_1_method_22_code 4 = .ok (.iload_n 1, 1) := by decide +kernel
theorem d_Desk_accountAt_5 : decode prog_1_method_22_code 5 = .ok (.aload_n 0, 1) := by decide +kernel
theorem d_Desk_accountAt_6 : decode prog_1_method_22_code 6 = .ok (.getfield 71, 3) := by decide +kernel
theorem kw_1_150 : (Jvm.Cond.fieldLink "CertificateDesk" (71 : Nat) "CertificateDesk" "accounts" "Ljava/util/ArrayList;") ∈ cd_tbl := tb_1 (List.mem_of_getElem? (i := 150) (by decide +kernel)) (by decide)
theorem fl_Desk_71 {X : cd_E} : cd_FL X "CertificateDesk" 71 0 8 (.object "java/util/ArrayList") := cd_FL.of rfl rfl (by decide) kw_1_150 (Or.inl rfl)
theorem d_Desk_accountAt_9 : decode prog_1_method_22_code 9 = .ok (.invokevirtual 135, 3) := by decide +kernel
abbrev m_AL_size : cd_M := (⟨"java/util/ArrayList", "size", "()I"⟩, prog_28_method_8_code, 1, some .int, 1, 20)
theorem kw_2_8 : (Jvm.Cond.methodLink "CertificateDesk" (135 : Nat) ({ cls := "java/util/ArrayList", name := "size", desc := "()I" } : Jvm.MethodName)) ∈ cd_tbl := tb_2 (List.mem_of_getElem? (i := 8) (by decide +kernel)) (by decide)
theorem kw_2_11 : (Jvm.Cond.code ({ cls := "java/util/ArrayList", name := "size", desc := "()I" } : Jvm.MethodName) prog_28_method_8_code (1 : Nat) (Option.some Jvm.ClassFile.FieldType.int)) ∈ cd_tbl := tb_2 (List.mem_of_getElem? (i := 11) (by decide +kernel)) (by decide)
theorem kw_2_9 : (Jvm.Cond.instanceMethod ({ cls := "java/util/ArrayList", name := "size", desc := "()I" } : Jvm.MethodName)) ∈ cd_tbl := tb_2 (List.mem_of_getElem? (i := 9) (by decide +kernel)) (by decide)
theorem kw_2_10 : (Jvm.Cond.selects "java/util/ArrayList" ({ cls := "java/util/ArrayList", name := "size", desc := "()I" } : Jvm.MethodName) ({ cls := "java/util/ArrayList", name := "size", desc := "()I" } : Jvm.MethodName)) ∈ cd_tbl := tb_2 (List.mem_of_getElem? (i := 10) (by decide +kernel)) (by decide)
theorem ca_Desk_accountAt_135 {X : cd_E} : cd_CV X m_Desk_accountAt m_AL_size 135 0 12 := ⟨⟨by decide, kw_2_11, kw_1_9, ⟨by decide, by decide, by decide +kernel⟩, by decide, by decide⟩, ⟨_, rfl, rfl⟩, kw_2_9, kw_2_10, (Or.inl kw_2_8)⟩
theorem d_Desk_accountAt_12 : decode prog_1_method_22_code 12 = .ok (.if_icmp .ge 17, 3) := by decide +kernel
theorem d_Desk_accountAt_15 : decode prog_1_method_22_code 15 = .ok (.aload_n 0, 1) := by decide +kernel
theorem d_Desk_accountAt_16 : decode prog_1_method_22_code 16 = .ok (.getfield 71, 3) := by decide +kernel
theorem d_Desk_accountAt_19 : decode prog_1_method_22_code 19 = .ok (.iload_n 1, 1) := by decide +kernel
theorem d_Desk_accountAt_20 : decode prog_1_method_22_code 20 = .ok (.invokevirtual 138, 3) := by decide +kernel
abbrev m_AL_get : cd_M := (⟨"java/util/ArrayList", "get", "(I)Ljava/lang/Object;"⟩, prog_28_method_20_code, 2, some (.object "java/lang/Object"), 10, 218)
theorem kw_2_12 : (Jvm.Cond.methodLink "CertificateDesk" (138 : Nat) ({ cls := "java/util/ArrayList", name := "get", desc := "(I)Ljava/lang/Object;" } : Jvm.MethodName)) ∈ cd_tbl := tb_2 (List.mem_of_getElem? (i := 12) (by decide +kernel)) (by decide)
theorem kw_2_15 : (Jvm.Cond.code ({ cls := "java/util/ArrayList", name := "get", desc := "(I)Ljava/lang/Object;" } : Jvm.MethodName) prog_28_method_20_code (2 : Nat) (Option.some (Jvm.ClassFile.FieldType.object "java/lang/Object"))) ∈ cd_tbl := tb_2 (List.mem_of_getElem? (i := 15) (by decide +kernel)) (by decide)
theorem kw_2_13 : (Jvm.Cond.instanceMethod ({ cls := "java/util/ArrayList", name := "get", desc := "(I)Ljava/lang/Object;" } : Jvm.MethodName)) ∈ cd_tbl := tb_2 (List.mem_of_getElem? (i := 13) (by decide +kernel)) (by decide)
theorem kw_2_14 : (Jvm.Cond.selects "java/util/ArrayList" ({ cls := "java/util/ArrayList", name := "get", desc := "(I)Ljava/lang/Object;" } : Jvm.MethodName) ({ cls := "java/util/ArrayList", name := "get", desc := "(I)Ljava/lang/Object;" } : Jvm.MethodName)) ∈ cd_tbl := tb_2 (List.mem_of_getElem? (i := 14) (by decide +kernel)) (by decide)
theorem ca_Desk_accountAt_138 {X : cd_E} : cd_CV X m_Desk_accountAt m_AL_get 138 1 12 := ⟨⟨by decide, kw_2_15, kw_1_9, ⟨by decide, by decide, by decide +kernel⟩, by decide, by decide⟩, ⟨_, rfl, rfl⟩, kw_2_13, kw_2_14, (Or.inl kw_2_12)⟩
theorem d_Desk_accountAt_23 : decode prog_1_method_22_code 23 = .ok (.checkcast 180, 3) := by decide +kernel
theorem kw_2_26 : (Jvm.Cond.classLink "CertificateDesk" (180 : Nat) "CertificateDesk$Account") ∈ cd_tbl := tb_2 (List.mem_of_getElem? (i := 26) (by decide +kernel)) (by decide)
theorem d_Desk_accountAt_26 : decode prog_1_method_22_code 26 = .ok (.goto 4, 3) := by decide +kernel
theorem g_Desk_accountAt {X : cd_E} {kc ks : Nat} {h : cd_H} {Q : Option Value → cd_H → Prop} {p1 : Int32} (F : cc_ok h) (H : (((p1 < 0) → (Q (some (.null)) h)) ∧ ((¬ p1 < 0) → (cd_W X m_AL_size 0 0 0 [some (.ref 78)] [] h (fun r2 h3 => ∃ x4 : Int32, r2 = some (.int x4) ∧ ((cc_ok h3) ∧ ((((x4 ≤ p1) → (Q (some (.null)) h3)) ∧ ((¬ x4 ≤ p1) → (cd_W X m_AL_get 0 0 0 [some (.ref 78), some (.int p1)] [] h3 (fun r7 h8 => ∃ o9 : Option Nat, r7 = some (va_rf o9) ∧ ((cc_ok h8) ∧ ((∃ b11 : Nat, o9 = some b11 ∧ ((cd_k h8 b11 = some (.inl 1)) ∧ (Q (some (.ref b11)) h8)))))))))))))))) : cd_W X m_Desk_accountAt kc ks 0 [some (.ref 64), some (.int p1)] [] h Q := by
  refine cd_iload_n (i := 1) d_Desk_accountAt_0 rfl rfl ?_
  refine cd_if_lt (tgt := 29) d_Desk_accountAt_1 (by decide) (fun t1 => ?_) (fun t1 => ?_)
  · replace H := H.1 t1
    refine cd_null d_Desk_accountAt_29 ?_
    exact cd_aret d_Desk_accountAt_30 rfl (Or.inl ⟨_, rfl⟩) cd_isr_null H
  · replace H := H.2 t1
    refine cd_iload_n (i := 1) d_Desk_accountAt_4 rfl rfl ?_
    refine cd_aload_n (i := 0) (v := .ref 64) d_Desk_accountAt_5 rfl rfl (cd_isr_ref _) ?_
    refine cd_get (v := .ref 78) d_Desk_accountAt_6 fl_Desk_71 (cc_k64 F) (congrArg va_rf (cc_r64_8 F)) ?_
    refine cd_callV (kc := kc) (ks := ks) (kc' := 0) (ks' := 0) (As := []) (S := [.int p1]) d_Desk_accountAt_9 ca_Desk_accountAt_135 (cc_k78 F) rfl (Nat.le_of_ble_eq_true rfl) (Nat.le_of_ble_eq_true rfl) ?_
    refine cd_W.mono (fun r2 h3 H => ?_) H
    obtain ⟨x4, rfl, H⟩ := H
    obtain ⟨F5, H⟩ := H
    show cd_W X m_Desk_accountAt kc ks 12 [some (.ref 64), some (.int p1)] [.int x4, .int p1] h3 Q
    refine cd_icmp_ge (tgt := 29) d_Desk_accountAt_12 (by decide) (fun t6 => ?_) (fun t6 => ?_)
    · replace H := H.1 t6
      refine cd_null d_Desk_accountAt_29 ?_
      exact cd_aret d_Desk_accountAt_30 rfl (Or.inl ⟨_, rfl⟩) cd_isr_null H
    · replace H := H.2 t6
      refine cd_aload_n (i := 0) (v := .ref 64) d_Desk_accountAt_15 rfl rfl (cd_isr_ref _) ?_
      refine cd_get (v := .ref 78) d_Desk_accountAt_16 fl_Desk_71 (cc_k64 F5) (congrArg va_rf (cc_r64_8 F5)) ?_
      refine cd_iload_n (i := 1) d_Desk_accountAt_19 rfl rfl ?_
      refine cd_callV (kc := kc) (ks := ks) (kc' := 0) (ks' := 0) (As := [.int p1]) (S := []) d_Desk_accountAt_20 ca_Desk_accountAt_138 (cc_k78 F5) rfl (Nat.le_of_ble_eq_true rfl) (Nat.le_of_ble_eq_true rfl) ?_
      refine cd_W.mono (fun r7 h8 H => ?_) H
      obtain ⟨o9, rfl, H⟩ := H
      obtain ⟨F10, H⟩ := H
      show cd_W X m_Desk_accountAt kc ks 23 [some (.ref 64), some (.int p1)] [va_rf o9] h8 Q
      obtain ⟨b11, e12, H⟩ := H
      rw [cd_rfs e12]
      obtain ⟨c13, H⟩ := H
      refine cd_cast d_Desk_accountAt_23 rfl ⟨kw_2_26, kw_2_152⟩ c13 ?_
      refine cd_goto (tgt := 30) d_Desk_accountAt_26 (by decide) ?_
      exact cd_aret d_Desk_accountAt_30 rfl (Or.inl ⟨_, rfl⟩) (cd_isr_ref _) H

abbrev m_Desk_orderAt : cd_M := (⟨"CertificateDesk", "orderAt", "(I)LCertificateDesk$Order;"⟩, prog_1_method_23_code, 2, some (.object "CertificateDesk$Order"), 11, 239)
theorem d_Desk_orderAt_0 : decode prog_1_method_23_code 0 = .ok (.iload_n 1, 1) := by decide +kernel
theorem d_Desk_orderAt_1 : decode prog_1_method_23_code 1 = .ok (.ifCond .lt 28, 3) := by decide +kernel
theorem d_Desk_orderAt_29 : decode prog_1_method_23_code 29 = .ok (.aconst_null, 1) := by decide +kernel
theorem d_Desk_orderAt_30 : decode prog_1_method_23_code 30 = .ok (.areturn, 1) := by decide +kernel
theorem d_Desk_orderAt_4 : decode prog_1_method_23_code 4 = .ok (.iload_n 1, 1) := by decide +kernel
theorem d_Desk_orderAt_5 : decode prog_1_method_23_code 5 = .ok (.aload_n 0, 1) := by decide +kernel
theorem d_Desk_orderAt_6 : decode prog_1_method_23_code 6 = .ok (.getfield 75, 3) := by decide +kernel
theorem kw_1_151 : (Jvm.Cond.fieldLink "CertificateDesk" (75 : Nat) "CertificateDesk" "orders" "Ljava/util/ArrayList;") ∈ cd_tbl := tb_1 (List.mem_of_getElem? (i := 151) (by decide +kernel)) (by decide)
theorem fl_Desk_75 {X : cd_E} : cd_FL X "CertificateDesk" 75 0 9 (.object "java/util/ArrayList") := cd_FL.of rfl rfl (by decide) kw_1_151 (Or.inl rfl)
theorem d_Desk_orderAt_9 : decode prog_1_method_23_code 9 = .ok (.invokevirtual 135, 3) := by decide +kernel
theorem ca_Desk_orderAt_135 {X : cd_E} : cd_CV X m_Desk_orderAt m_AL_size 135 0 12 := ⟨⟨by decide, kw_2_11, kw_1_9, ⟨by decide, by decide, by decide +kernel⟩, by decide, by decide⟩, ⟨_, rfl, rfl⟩, kw_2_9, kw_2_10, (Or.inl kw_2_8)⟩
theorem d_Desk_orderAt_12 : decode prog_1_method_23_code 12 = .ok (.if_icmp .ge 17, 3) := by decide +kernel
theorem d_Desk_orderAt_15 : decode prog_1_method_23_code 15 = .ok (.aload_n 0, 1) := by decide +kernel
theorem d_Desk_orderAt_16 : decode prog_1_method_23_code 16 = .ok (.getfield 75, 3) := by decide +kernel
theorem d_Desk_orderAt_19 : decode prog_1_method_23_code 19 = .ok (.iload_n 1, 1) := by decide +kernel
theorem d_Desk_orderAt_20 : decode prog_1_method_23_code 20 = .ok (.invokevirtual 138, 3) := by decide +kernel
theorem ca_Desk_orderAt_138 {X : cd_E} : cd_CV X m_Desk_orderAt m_AL_get 138 1 12 := ⟨⟨by decide, kw_2_15, kw_1_9, ⟨by decide, by decide, by decide +kernel⟩, by decide, by decide⟩, ⟨_, rfl, rfl⟩, kw_2_13, kw_2_14, (Or.inl kw_2_12)⟩
theorem d_Desk_orderAt_23 : decode prog_1_method_23_code 23 = .ok (.checkcast 199, 3) := by decide +kernel
theorem kw_3_32 : (Jvm.Cond.classLink "CertificateDesk" (199 : Nat) "CertificateDesk$Order") ∈ cd_tbl := tb_3 (List.mem_of_getElem? (i := 32) (by decide +kernel)) (by decide)
theorem d_Desk_orderAt_26 : decode prog_1_method_23_code 26 = .ok (.goto 4, 3) := by decide +kernel
theorem g_Desk_orderAt {X : cd_E} {kc ks : Nat} {h : cd_H} {Q : Option Value → cd_H → Prop} {p1 : Int32} (F : cc_ok h) (H : (((p1 < 0) → (Q (some (.null)) h)) ∧ ((¬ p1 < 0) → (cd_W X m_AL_size 0 0 0 [some (.ref 79)] [] h (fun r2 h3 => ∃ x4 : Int32, r2 = some (.int x4) ∧ ((cc_ok h3) ∧ ((((x4 ≤ p1) → (Q (some (.null)) h3)) ∧ ((¬ x4 ≤ p1) → (cd_W X m_AL_get 0 0 0 [some (.ref 79), some (.int p1)] [] h3 (fun r7 h8 => ∃ o9 : Option Nat, r7 = some (va_rf o9) ∧ ((cc_ok h8) ∧ ((∃ b11 : Nat, o9 = some b11 ∧ ((cd_k h8 b11 = some (.inl 8)) ∧ (Q (some (.ref b11)) h8)))))))))))))))) : cd_W X m_Desk_orderAt kc ks 0 [some (.ref 64), some (.int p1)] [] h Q := by
  refine cd_iload_n (i := 1) d_Desk_orderAt_0 rfl rfl ?_
  refine cd_if_lt (tgt := 29) d_Desk_orderAt_1 (by decide) (fun t1 => ?_) (fun t1 => ?_)
  · replace H := H.1 t1
    refine cd_null d_Desk_orderAt_29 ?_
    exact cd_aret d_Desk_orderAt_30 rfl (Or.inl ⟨_, rfl⟩) cd_isr_null H
  · replace H := H.2 t1
    refine cd_iload_n (i := 1) d_Desk_orderAt_4 rfl rfl ?_
    refine cd_aload_n (i := 0) (v := .ref 64) d_Desk_orderAt_5 rfl rfl (cd_isr_ref _) ?_
    refine cd_get (v := .ref 79) d_Desk_orderAt_6 fl_Desk_75 (cc_k64 F) (congrArg va_rf (cc_r64_9 F)) ?_
    refine cd_callV (kc := kc) (ks := ks) (kc' := 0) (ks' := 0) (As := []) (S := [.int p1]) d_Desk_orderAt_9 ca_Desk_orderAt_135 (cc_k79 F) rfl (Nat.le_of_ble_eq_true rfl) (Nat.le_of_ble_eq_true rfl) ?_
    refine cd_W.mono (fun r2 h3 H => ?_) H
    obtain ⟨x4, rfl, H⟩ := H
    obtain ⟨F5, H⟩ := H
    show cd_W X m_Desk_orderAt kc ks 12 [some (.ref 64), some (.int p1)] [.int x4, .int p1] h3 Q
    refine cd_icmp_ge (tgt := 29) d_Desk_orderAt_12 (by decide) (fun t6 => ?_) (fun t6 => ?_)
    · replace H := H.1 t6
      refine cd_null d_Desk_orderAt_29 ?_
      exact cd_aret d_Desk_orderAt_30 rfl (Or.inl ⟨_, rfl⟩) cd_isr_null H
    · replace H := H.2 t6
      refine cd_aload_n (i := 0) (v := .ref 64) d_Desk_orderAt_15 rfl rfl (cd_isr_ref _) ?_
      refine cd_get (v := .ref 79) d_Desk_orderAt_16 fl_Desk_75 (cc_k64 F5) (congrArg va_rf (cc_r64_9 F5)) ?_
      refine cd_iload_n (i := 1) d_Desk_orderAt_19 rfl rfl ?_
      refine cd_callV (kc := kc) (ks := ks) (kc' := 0) (ks' := 0) (As := [.int p1]) (S := []) d_Desk_orderAt_20 ca_Desk_orderAt_138 (cc_k79 F5) rfl (Nat.le_of_ble_eq_true rfl) (Nat.le_of_ble_eq_true rfl) ?_
      refine cd_W.mono (fun r7 h8 H => ?_) H
      obtain ⟨o9, rfl, H⟩ := H
      obtain ⟨F10, H⟩ := H
      show cd_W X m_Desk_orderAt kc ks 23 [some (.ref 64), some (.int p1)] [va_rf o9] h8 Q
      obtain ⟨b11, e12, H⟩ := H
      rw [cd_rfs e12]
      obtain ⟨c13, H⟩ := H
      refine cd_cast d_Desk_orderAt_23 rfl ⟨kw_3_32, kw_3_33⟩ c13 ?_
      refine cd_goto (tgt := 30) d_Desk_orderAt_26 (by decide) ?_
      exact cd_aret d_Desk_orderAt_30 rfl (Or.inl ⟨_, rfl⟩) (cd_isr_ref _) H

abbrev m_Desk_authorizationAt : cd_M := (⟨"CertificateDesk", "authorizationAt", "(I)LCertificateDesk$Authorization;"⟩, prog_1_method_24_code, 2, some (.object "CertificateDesk$Authorization"), 11, 239)
theorem d_Desk_authorizationAt_0 : decode prog_1_method_24_code 0 = .ok (.iload_n 1, 1) := by decide +kernel
theorem d_Desk_authorizationAt_1 : decode prog_1_method_24_code 1 = .ok (.ifCond .lt 28, 3) := by decide +kernel
theorem d_Desk_authorizationAt_29 : decode prog_1_method_24_code 29 = .ok (.aconst_null, 1) := by decide +kernel
theorem d_Desk_authorizationAt_30 : decode prog_1_method_24_code 30 = .ok (.areturn, 1) := by decide +kernel
theorem d_Desk_authorizationAt_4 : decode prog_1_method_24_code 4 = .ok (.iload_n 1, 1) := by decide +kernel
theorem d_Desk_authorizationAt_5 : decode prog_1_method_24_code 5 = .ok (.aload_n 0, 1) := by decide +kernel
theorem d_Desk_authorizationAt_6 : decode prog_1_method_24_code 6 = .ok (.getfield 78, 3) := by decide +kernel
theorem kw_1_152 : (Jvm.Cond.fieldLink "CertificateDesk" (78 : Nat) "CertificateDesk" "authorizations" "Ljava/util/ArrayList;") ∈ cd_tbl := tb_1 (List.mem_of_getElem? (i := 152) (by decide +kernel)) (by decide)
theorem fl_Desk_78 {X : cd_E} : cd_FL X "CertificateDesk" 78 0 10 (.object "java/util/ArrayList") := cd_FL.of rfl rfl (by decide) kw_1_152 (Or.inl rfl)
theorem d_Desk_authorizationAt_9 : decode prog_1_method_24_code 9 = .ok (.invokevirtual 135, 3) := by decide +kernel
theorem ca_Desk_authorizationAt_135 {X : cd_E} : cd_CV X m_Desk_authorizationAt m_AL_size 135 0 12 := ⟨⟨by decide, kw_2_11, kw_1_9, ⟨by decide, by decide, by decide +kernel⟩, by decide, by decide⟩, ⟨_, rfl, rfl⟩, kw_2_9, kw_2_10, (Or.inl kw_2_8)⟩
theorem d_Desk_authorizationAt_12 : decode prog_1_method_24_code 12 = .ok (.if_icmp .ge 17, 3) := by decide +kernel
theorem d_Desk_authorizationAt_15 : decode prog_1_method_24_code 15 = .ok (.aload_n 0, 1) := by decide +kernel
theorem d_Desk_authorizationAt_16 : decode prog_1_method_24_code 16 = .ok (.getfield 78, 3) := by decide +kernel
theorem d_Desk_authorizationAt_19 : decode prog_1_method_24_code 19 = .ok (.iload_n 1, 1) := by decide +kernel
theorem d_Desk_authorizationAt_20 : decode prog_1_method_24_code 20 = .ok (.invokevirtual 138, 3) := by decide +kernel
theorem ca_Desk_authorizationAt_138 {X : cd_E} : cd_CV X m_Desk_authorizationAt m_AL_get 138 1 12 := ⟨⟨by decide, kw_2_15, kw_1_9, ⟨by decide, by decide, by decide +kernel⟩, by decide, by decide⟩, ⟨_, rfl, rfl⟩, kw_2_13, kw_2_14, (Or.inl kw_2_12)⟩
theorem d_Desk_authorizationAt_23 : decode prog_1_method_24_code 23 = .ok (.checkcast 130, 3) := by decide +kernel
theorem kw_2_151 : (Jvm.Cond.classLink "CertificateDesk" (130 : Nat) "CertificateDesk$Authorization") ∈ cd_tbl := tb_2 (List.mem_of_getElem? (i := 151) (by decide +kernel)) (by decide)
theorem d_Desk_authorizationAt_26 : decode prog_1_method_24_code 26 = .ok (.goto 4, 3) := by decide +kernel
theorem g_Desk_authorizationAt {X : cd_E} {kc ks : Nat} {h : cd_H} {Q : Option Value → cd_H → Prop} {p1 : Int32} (F : cc_ok h) (H : (((p1 < 0) → (Q (some (.null)) h)) ∧ ((¬ p1 < 0) → (cd_W X m_AL_size 0 0 0 [some (.ref 80)] [] h (fun r2 h3 => ∃ x4 : Int32, r2 = some (.int x4) ∧ ((cc_ok h3) ∧ ((((x4 ≤ p1) → (Q (some (.null)) h3)) ∧ ((¬ x4 ≤ p1) → (cd_W X m_AL_get 0 0 0 [some (.ref 80), some (.int p1)] [] h3 (fun r7 h8 => ∃ o9 : Option Nat, r7 = some (va_rf o9) ∧ ((cc_ok h8) ∧ ((∃ b11 : Nat, o9 = some b11 ∧ ((cd_k h8 b11 = some (.inl 2)) ∧ (Q (some (.ref b11)) h8)))))))))))))))) : cd_W X m_Desk_authorizationAt kc ks 0 [some (.ref 64), some (.int p1)] [] h Q := by
  refine cd_iload_n (i := 1) d_Desk_authorizationAt_0 rfl rfl ?_
  refine cd_if_lt (tgt := 29) d_Desk_authorizationAt_1 (by decide) (fun t1 => ?_) (fun t1 => ?_)
  · replace H := H.1 t1
    refine cd_null d_Desk_authorizationAt_29 ?_
    exact cd_aret d_Desk_authorizationAt_30 rfl (Or.inl ⟨_, rfl⟩) cd_isr_null H
  · replace H := H.2 t1
    refine cd_iload_n (i := 1) d_Desk_authorizationAt_4 rfl rfl ?_
    refine cd_aload_n (i := 0) (v := .ref 64) d_Desk_authorizationAt_5 rfl rfl (cd_isr_ref _) ?_
    refine cd_get (v := .ref 80) d_Desk_authorizationAt_6 fl_Desk_78 (cc_k64 F) (congrArg va_rf (cc_r64_10 F)) ?_
    refine cd_callV (kc := kc) (ks := ks) (kc' := 0) (ks' := 0) (As := []) (S := [.int p1]) d_Desk_authorizationAt_9 ca_Desk_authorizationAt_135 (cc_k80 F) rfl (Nat.le_of_ble_eq_true rfl) (Nat.le_of_ble_eq_true rfl) ?_
    refine cd_W.mono (fun r2 h3 H => ?_) H
    obtain ⟨x4, rfl, H⟩ := H
    obtain ⟨F5, H⟩ := H
    show cd_W X m_Desk_authorizationAt kc ks 12 [some (.ref 64), some (.int p1)] [.int x4, .int p1] h3 Q
    refine cd_icmp_ge (tgt := 29) d_Desk_authorizationAt_12 (by decide) (fun t6 => ?_) (fun t6 => ?_)
    · replace H := H.1 t6
      refine cd_null d_Desk_authorizationAt_29 ?_
      exact cd_aret d_Desk_authorizationAt_30 rfl (Or.inl ⟨_, rfl⟩) cd_isr_null H
    · replace H := H.2 t6
      refine cd_aload_n (i := 0) (v := .ref 64) d_Desk_authorizationAt_15 rfl rfl (cd_isr_ref _) ?_
      refine cd_get (v := .ref 80) d_Desk_authorizationAt_16 fl_Desk_78 (cc_k64 F5) (congrArg va_rf (cc_r64_10 F5)) ?_
      refine cd_iload_n (i := 1) d_Desk_authorizationAt_19 rfl rfl ?_
      refine cd_callV (kc := kc) (ks := ks) (kc' := 0) (ks' := 0) (As := [.int p1]) (S := []) d_Desk_authorizationAt_20 ca_Desk_authorizationAt_138 (cc_k80 F5) rfl (Nat.le_of_ble_eq_true rfl) (Nat.le_of_ble_eq_true rfl) ?_
      refine cd_W.mono (fun r7 h8 H => ?_) H
      obtain ⟨o9, rfl, H⟩ := H
      obtain ⟨F10, H⟩ := H
      show cd_W X m_Desk_authorizationAt kc ks 23 [some (.ref 64), some (.int p1)] [va_rf o9] h8 Q
      obtain ⟨b11, e12, H⟩ := H
      rw [cd_rfs e12]
      obtain ⟨c13, H⟩ := H
      refine cd_cast d_Desk_authorizationAt_23 rfl ⟨kw_2_151, kw_3_208⟩ c13 ?_
      refine cd_goto (tgt := 30) d_Desk_authorizationAt_26 (by decide) ?_
      exact cd_aret d_Desk_authorizationAt_30 rfl (Or.inl ⟨_, rfl⟩) (cd_isr_ref _) H

abbrev m_Desk_certificateAt : cd_M := (⟨"CertificateDesk", "certificateAt", "(I)LCertificateDesk$Certificate;"⟩, prog_1_method_25_code, 2, some (.object "CertificateDesk$Certificate"), 11, 239)
theorem d_Desk_certificateAt_0 : decode prog_1_method_25_code 0 = .ok (.iload_n 1, 1) := by decide +kernel
theorem d_Desk_certificateAt_1 : decode prog_1_method_25_code 1 = .ok (.ifCond .lt 28, 3) := by decide +kernel
theorem d_Desk_certificateAt_29 : decode prog_1_method_25_code 29 = .ok (.aconst_null, 1) := by decide +kernel
theorem d_Desk_certificateAt_30 : decode prog_1_method_25_code 30 = .ok (.areturn, 1) := by decide +kernel
theorem d_Desk_certificateAt_4 : decode prog_1_method_25_code 4 = .ok (.iload_n 1, 1) := by decide +kernel
theorem d_Desk_certificateAt_5 : decode prog_1_method_25_code 5 = .ok (.aload_n 0, 1) := by decide +kernel
theorem d_Desk_certificateAt_6 : decode prog_1_method_25_code 6 = .ok (.getfield 81, 3) := by decide +kernel
theorem kw_1_153 : (Jvm.Cond.fieldLink "CertificateDesk" (81 : Nat) "CertificateDesk" "certificates" "Ljava/util/ArrayList;") ∈ cd_tbl := tb_1 (List.mem_of_getElem? (i := 153) (by decide +kernel)) (by decide)
theorem fl_Desk_81 {X : cd_E} : cd_FL X "CertificateDesk" 81 0 11 (.object "java/util/ArrayList") := cd_FL.of rfl rfl (by decide) kw_1_153 (Or.inl rfl)
theorem d_Desk_certificateAt_9 : decode prog_1_method_25_code 9 = .ok (.invokevirtual 135, 3) := by decide +kernel
theorem ca_Desk_certificateAt_135 {X : cd_E} : cd_CV X m_Desk_certificateAt m_AL_size 135 0 12 := ⟨⟨by decide, kw_2_11, kw_1_9, ⟨by decide, by decide, by decide +kernel⟩, by decide, by decide⟩, ⟨_, rfl, rfl⟩, kw_2_9, kw_2_10, (Or.inl kw_2_8)⟩
theorem d_Desk_certificateAt_12 : decode prog_1_method_25_code 12 = .ok (.if_icmp .ge 17, 3) := by decide +kernel
theorem d_Desk_certificateAt_15 : decode prog_1_method_25_code 15 = .ok (.aload_n 0, 1) := by decide +kernel
theorem d_Desk_certificateAt_16 : decode prog_1_method_25_code 16 = .ok (.getfield 81, 3) := by decide +kernel
theorem d_Desk_certificateAt_19 : decode prog_1_method_25_code 19 = .ok (.iload_n 1, 1) := by decide +kernel
theorem d_Desk_certificateAt_20 : decode prog_1_method_25_code 20 = .ok (.invokevirtual 138, 3) := by decide +kernel
theorem ca_Desk_certificateAt_138 {X : cd_E} : cd_CV X m_Desk_certificateAt m_AL_get 138 1 12 := ⟨⟨by decide, kw_2_15, kw_1_9, ⟨by decide, by decide, by decide +kernel⟩, by decide, by decide⟩, ⟨_, rfl, rfl⟩, kw_2_13, kw_2_14, (Or.inl kw_2_12)⟩
theorem d_Desk_certificateAt_23 : decode prog_1_method_25_code 23 = .ok (.checkcast 215, 3) := by decide +kernel
theorem kw_4_58 : (Jvm.Cond.classLink "CertificateDesk" (215 : Nat) "CertificateDesk$Certificate") ∈ cd_tbl := tb_4 (List.mem_of_getElem? (i := 58) (by decide +kernel)) (by decide)
theorem d_Desk_certificateAt_26 : decode prog_1_method_25_code 26 = .ok (.goto 4, 3) := by decide +kernel
theorem g_Desk_certificateAt {X : cd_E} {kc ks : Nat} {h : cd_H} {Q : Option Value → cd_H → Prop} {p1 : Int32} (F : cc_ok h) (H : (((p1 < 0) → (Q (some (.null)) h)) ∧ ((¬ p1 < 0) → (cd_W X m_AL_size 0 0 0 [some (.ref 81)] [] h (fun r2 h3 => ∃ x4 : Int32, r2 = some (.int x4) ∧ ((cc_ok h3) ∧ ((((x4 ≤ p1) → (Q (some (.null)) h3)) ∧ ((¬ x4 ≤ p1) → (cd_W X m_AL_get 0 0 0 [some (.ref 81), some (.int p1)] [] h3 (fun r7 h8 => ∃ o9 : Option Nat, r7 = some (va_rf o9) ∧ ((cc_ok h8) ∧ ((∃ b11 : Nat, o9 = some b11 ∧ ((cd_k h8 b11 = some (.inl 3)) ∧ (Q (some (.ref b11)) h8)))))))))))))))) : cd_W X m_Desk_certificateAt kc ks 0 [some (.ref 64), some (.int p1)] [] h Q := by
  refine cd_iload_n (i := 1) d_Desk_certificateAt_0 rfl rfl ?_
  refine cd_if_lt (tgt := 29) d_Desk_certificateAt_1 (by decide) (fun t1 => ?_) (fun t1 => ?_)
  · replace H := H.1 t1
    refine cd_null d_Desk_certificateAt_29 ?_
    exact cd_aret d_Desk_certificateAt_30 rfl (Or.inl ⟨_, rfl⟩) cd_isr_null H
  · replace H := H.2 t1
    refine cd_iload_n (i := 1) d_Desk_certificateAt_4 rfl rfl ?_
    refine cd_aload_n (i := 0) (v := .ref 64) d_Desk_certificateAt_5 rfl rfl (cd_isr_ref _) ?_
    refine cd_get (v := .ref 81) d_Desk_certificateAt_6 fl_Desk_81 (cc_k64 F) (congrArg va_rf (cc_r64_11 F)) ?_
    refine cd_callV (kc := kc) (ks := ks) (kc' := 0) (ks' := 0) (As := []) (S := [.int p1]) d_Desk_certificateAt_9 ca_Desk_certificateAt_135 (cc_k81 F) rfl (Nat.le_of_ble_eq_true rfl) (Nat.le_of_ble_eq_true rfl) ?_
    refine cd_W.mono (fun r2 h3 H => ?_) H
    obtain ⟨x4, rfl, H⟩ := H
    obtain ⟨F5, H⟩ := H
    show cd_W X m_Desk_certificateAt kc ks 12 [some (.ref 64), some (.int p1)] [.int x4, .int p1] h3 Q
    refine cd_icmp_ge (tgt := 29) d_Desk_certificateAt_12 (by decide) (fun t6 => ?_) (fun t6 => ?_)
    · replace H := H.1 t6
      refine cd_null d_Desk_certificateAt_29 ?_
      exact cd_aret d_Desk_certificateAt_30 rfl (Or.inl ⟨_, rfl⟩) cd_isr_null H
    · replace H := H.2 t6
      refine cd_aload_n (i := 0) (v := .ref 64) d_Desk_certificateAt_15 rfl rfl (cd_isr_ref _) ?_
      refine cd_get (v := .ref 81) d_Desk_certificateAt_16 fl_Desk_81 (cc_k64 F5) (congrArg va_rf (cc_r64_11 F5)) ?_
      refine cd_iload_n (i := 1) d_Desk_certificateAt_19 rfl rfl ?_
      refine cd_callV (kc := kc) (ks := ks) (kc' := 0) (ks' := 0) (As := [.int p1]) (S := []) d_Desk_certificateAt_20 ca_Desk_certificateAt_138 (cc_k81 F5) rfl (Nat.le_of_ble_eq_true rfl) (Nat.le_of_ble_eq_true rfl) ?_
      refine cd_W.mono (fun r7 h8 H => ?_) H
      obtain ⟨o9, rfl, H⟩ := H
      obtain ⟨F10, H⟩ := H
      show cd_W X m_Desk_certificateAt kc ks 23 [some (.ref 64), some (.int p1)] [va_rf o9] h8 Q
      obtain ⟨b11, e12, H⟩ := H
      rw [cd_rfs e12]
      obtain ⟨c13, H⟩ := H
      refine cd_cast d_Desk_certificateAt_23 rfl ⟨kw_4_58, kw_4_59⟩ c13 ?_
      refine cd_goto (tgt := 30) d_Desk_certificateAt_26 (by decide) ?_
      exact cd_aret d_Desk_certificateAt_30 rfl (Or.inl ⟨_, rfl⟩) (cd_isr_ref _) H

abbrev m_Desk_isWay : cd_M := (⟨"CertificateDesk", "isWay", "(I)Z"⟩, prog_1_method_26_code, 1, some .boolean, 1, 20)
theorem d_Desk_isWay_0 : decode prog_1_method_26_code 0 = .ok (.iload_n 0, 1) := by decide +kernel
theorem d_Desk_isWay_1 : decode prog_1_method_26_code 1 = .ok (.ifCond .eq 8, 3) := by decide +kernel
theorem d_Desk_isWay_9 : decode prog_1_method_26_code 9 = .ok (.iconst 1, 1) := by decide +kernel
theorem d_Desk_isWay_10 : decode prog_1_method_26_code 10 = .ok (.goto 4, 3) := by decide +kernel
theorem d_Desk_isWay_14 : decode prog_1_method_26_code 14 = .ok (.ireturn, 1) := by decide +kernel
theorem d_Desk_isWay_4 : decode prog_1_method_26_code 4 = .ok (.iload_n 0, 1) := by decide +kernel
theorem d_Desk_isWay_5 : decode prog_1_method_26_code 5 = .ok (.iconst 1, 1) := by decide +kernel
theorem d_Desk_isWay_6 : decode prog_1_method_26_code 6 = .ok (.if_icmp .ne 7, 3) := by decide +kernel
theorem d_Desk_isWay_13 : decode prog_1_method_26_code 13 = .ok (.iconst 0, 1) := by decide +kernel
theorem g_Desk_isWay {X : cd_E} {kc ks : Nat} {h : cd_H} {Q : Option Value → cd_H → Prop} {p1 : Int32} (F : cc_ok h) (H : (((p1 = 0) → (Q (some (.int 1)) h)) ∧ ((¬ p1 = 0) → ((((¬ p1 = 1) → (Q (some (.int 0)) h)) ∧ ((p1 = 1) → (Q (some (.int 1)) h))))))) : cd_W X m_Desk_isWay kc ks 0 [some (.int p1)] [] h Q := by
  refine cd_iload_n (i := 0) d_Desk_isWay_0 rfl rfl ?_
  refine cd_if_eq (tgt := 9) d_Desk_isWay_1 (by decide) (fun t1 => ?_) (fun t1 => ?_)
  · replace H := H.1 t1
    refine cd_iconst (v := 1) d_Desk_isWay_9 (by decide) ?_
    refine cd_goto (tgt := 14) d_Desk_isWay_10 (by decide) ?_
    exact cd_iret d_Desk_isWay_14 rfl rfl H
  · replace H := H.2 t1
    refine cd_iload_n (i := 0) d_Desk_isWay_4 rfl rfl ?_
    refine cd_iconst (v := 1) d_Desk_isWay_5 (by decide) ?_
    refine cd_icmp_ne (tgt := 13) d_Desk_isWay_6 (by decide) (fun t2 => ?_) (fun t2 => ?_)
    · replace H := H.1 t2
      refine cd_iconst (v := 0) d_Desk_isWay_13 (by decide) ?_
      exact cd_iret d_Desk_isWay_14 rfl rfl H
    · replace H := H.2 t2
      refine cd_iconst (v := 1) d_Desk_isWay_9 (by decide) ?_
      refine cd_goto (tgt := 14) d_Desk_isWay_10 (by decide) ?_
      exact cd_iret d_Desk_isWay_14 rfl rfl H

abbrev m_Desk_slot : cd_M := (⟨"CertificateDesk", "slot", "(ILCertificateDesk$Authorization;)I"⟩, prog_1_method_27_code, 2, some .int, 1, 20)
theorem d_Desk_slot_0 : decode prog_1_method_27_code 0 = .ok (.iload_n 0, 1) := by decide +kernel
theorem d_Desk_slot_1 : decode prog_1_method_27_code 1 = .ok (.bipush 24, 2) := by decide +kernel
theorem d_Desk_slot_3 : decode prog_1_method_27_code 3 = .ok (.imul, 1) := by decide +kernel
theorem d_Desk_slot_4 : decode prog_1_method_27_code 4 = .ok (.aload_n 1, 1) := by decide +kernel
theorem d_Desk_slot_5 : decode prog_1_method_27_code 5 = .ok (.getfield 243, 3) := by decide +kernel
theorem kw_3_233 : (Jvm.Cond.fieldLink "CertificateDesk" (243 : Nat) "CertificateDesk$Authorization" "place" "I") ∈ cd_tbl := tb_3 (List.mem_of_getElem? (i := 233) (by decide +kernel)) (by decide)
theorem fl_Desk_243 {X : cd_E} : cd_FL X "CertificateDesk" 243 2 4 .int := cd_FL.of rfl rfl (by decide) kw_3_233 (Or.inl rfl)
theorem d_Desk_slot_8 : decode prog_1_method_27_code 8 = .ok (.iadd, 1) := by decide +kernel
theorem d_Desk_slot_9 : decode prog_1_method_27_code 9 = .ok (.ireturn, 1) := by decide +kernel
theorem g_Desk_slot {X : cd_E} {kc ks : Nat} {h : cd_H} {Q : Option Value → cd_H → Prop} {p1 : Int32} {p2 : Nat} (F : cc_ok h) (H : (cd_k h p2 = some (.inl 2)) ∧ (Q (some (.int ((p1 * 24) + (cd_i h p2 4)))) h)) : cd_W X m_Desk_slot kc ks 0 [some (.int p1), some (.ref p2)] [] h Q := by
  refine cd_iload_n (i := 0) d_Desk_slot_0 rfl rfl ?_
  refine cd_bipush (v := 24) d_Desk_slot_1 (by decide) ?_
  refine cd_imul d_Desk_slot_3 ?_
  refine cd_aload_n (i := 1) (v := .ref p2) d_Desk_slot_4 rfl rfl (cd_isr_ref _) ?_
  obtain ⟨c1, H⟩ := H
  refine cd_get (v := .int (cd_i h p2 4)) d_Desk_slot_5 fl_Desk_243 c1 rfl ?_
  refine cd_iadd d_Desk_slot_8 ?_
  exact cd_iret d_Desk_slot_9 rfl rfl H

abbrev m_Desk_authorizationState : cd_M := (⟨"CertificateDesk", "authorizationState", "(LCertificateDesk$Authorization;)I"⟩, prog_1_method_29_code, 2, some .int, 1, 20)
theorem d_Desk_authorizationState_0 : decode prog_1_method_29_code 0 = .ok (.aload_n 1, 1) := by decide +kernel
theorem d_Desk_authorizationState_1 : decode prog_1_method_29_code 1 = .ok (.getfield 246, 3) := by decide +kernel
theorem kw_3_228 : (Jvm.Cond.fieldLink "CertificateDesk" (246 : Nat) "CertificateDesk$Authorization" "owner" "LCertificateDesk$Account;") ∈ cd_tbl := tb_3 (List.mem_of_getElem? (i := 228) (by decide +kernel)) (by decide)
theorem fl_Desk_246 {X : cd_E} : cd_FL X "CertificateDesk" 246 2 1 (.object "CertificateDesk$Account") := cd_FL.of rfl rfl (by decide) kw_3_228 (Or.inl rfl)
theorem d_Desk_authorizationState_4 : decode prog_1_method_29_code 4 = .ok (.getfield 179, 3) := by decide +kernel
theorem kw_2_160 : (Jvm.Cond.fieldLink "CertificateDesk" (179 : Nat) "CertificateDesk$Account" "closed" "Z") ∈ cd_tbl := tb_2 (List.mem_of_getElem? (i := 160) (by decide +kernel)) (by decide)
theorem fl_Desk_179 {X : cd_E} : cd_FL X "CertificateDesk" 179 1 1 .boolean := cd_FL.of rfl rfl (by decide) kw_2_160 (Or.inl rfl)
theorem d_Desk_authorizationState_7 : decode prog_1_method_29_code 7 = .ok (.ifCond .ne 11, 3) := by decide +kernel
theorem d_Desk_authorizationState_18 : decode prog_1_method_29_code 18 = .ok (.iconst 3, 1) := by decide +kernel
theorem d_Desk_authorizationState_19 : decode prog_1_method_29_code 19 = .ok (.ireturn, 1) := by decide +kernel
theorem d_Desk_authorizationState_10 : decode prog_1_method_29_code 10 = .ok (.aload_n 1, 1) := by decide +kernel
theorem d_Desk_authorizationState_11 : decode prog_1_method_29_code 11 = .ok (.getfield 250, 3) := by decide +kernel
theorem kw_3_235 : (Jvm.Cond.fieldLink "CertificateDesk" (250 : Nat) "CertificateDesk$Authorization" "decision" "I") ∈ cd_tbl := tb_3 (List.mem_of_getElem? (i := 235) (by decide +kernel)) (by decide)
theorem fl_Desk_250 {X : cd_E} : cd_FL X "CertificateDesk" 250 2 5 .int := cd_FL.of rfl rfl (by decide) kw_3_235 (Or.inl rfl)
theorem d_Desk_authorizationState_14 : decode prog_1_method_29_code 14 = .ok (.iconst 3, 1) := by decide +kernel
theorem d_Desk_authorizationState_15 : decode prog_1_method_29_code 15 = .ok (.if_icmp .ne 5, 3) := by decide +kernel
theorem d_Desk_authorizationState_20 : decode prog_1_method_29_code 20 = .ok (.aload_n 0, 1) := by decide +kernel
theorem d_Desk_authorizationState_21 : decode prog_1_method_29_code 21 = .ok (.getfield 84, 3) := by decide +kernel
theorem kw_1_154 : (Jvm.Cond.fieldLink "CertificateDesk" (84 : Nat) "CertificateDesk" "now" "I") ∈ cd_tbl := tb_1 (List.mem_of_getElem? (i := 154) (by decide +kernel)) (by decide)
theorem fl_Desk_84 {X : cd_E} : cd_FL X "CertificateDesk" 84 0 12 .int := cd_FL.of rfl rfl (by decide) kw_1_154 (Or.inl rfl)
theorem d_Desk_authorizationState_24 : decode prog_1_method_29_code 24 = .ok (.aload_n 1, 1) := by decide +kernel
theorem d_Desk_authorizationState_25 : decode prog_1_method_29_code 25 = .ok (.getfield 253, 3) := by decide +kernel
theorem kw_3_237 : (Jvm.Cond.fieldLink "CertificateDesk" (253 : Nat) "CertificateDesk$Authorization" "since" "I") ∈ cd_tbl := tb_3 (List.mem_of_getElem? (i := 237) (by decide +kernel)) (by decide)
theorem fl_Desk_253 {X : cd_E} : cd_FL X "CertificateDesk" 253 2 6 .int := cd_FL.of rfl rfl (by decide) kw_3_237 (Or.inl rfl)
theorem d_Desk_authorizationState_28 : decode prog_1_method_29_code 28 = .ok (.isub, 1) := by decide +kernel
theorem d_Desk_authorizationState_29 : decode prog_1_method_29_code 29 = .ok (.aload_n 0, 1) := by decide +kernel
theorem d_Desk_authorizationState_30 : decode prog_1_method_29_code 30 = .ok (.getfield 7, 3) := by decide +kernel
theorem kw_1_142 : (Jvm.Cond.fieldLink "CertificateDesk" (7 : Nat) "CertificateDesk" "life" "I") ∈ cd_tbl := tb_1 (List.mem_of_getElem? (i := 142) (by decide +kernel)) (by decide)
theorem fl_Desk_7 {X : cd_E} : cd_FL X "CertificateDesk" 7 0 0 .int := cd_FL.of rfl rfl (by decide) kw_1_142 (Or.inl rfl)
theorem d_Desk_authorizationState_33 : decode prog_1_method_29_code 33 = .ok (.if_icmp .lt 5, 3) := by decide +kernel
theorem d_Desk_authorizationState_38 : decode prog_1_method_29_code 38 = .ok (.aload_n 1, 1) := by decide +kernel
theorem d_Desk_authorizationState_39 : decode prog_1_method_29_code 39 = .ok (.getfield 250, 3) := by decide +kernel
theorem d_Desk_authorizationState_42 : decode prog_1_method_29_code 42 = .ok (.iconst 2, 1) := by decide +kernel
theorem d_Desk_authorizationState_43 : decode prog_1_method_29_code 43 = .ok (.if_icmp .ne 5, 3) := by decide +kernel
theorem d_Desk_authorizationState_48 : decode prog_1_method_29_code 48 = .ok (.aload_n 1, 1) := by decide +kernel
theorem d_Desk_authorizationState_49 : decode prog_1_method_29_code 49 = .ok (.getfield 154, 3) := by decide +kernel
theorem kw_3_239 : (Jvm.Cond.fieldLink "CertificateDesk" (154 : Nat) "CertificateDesk$Authorization" "trialWay" "I") ∈ cd_tbl := tb_3 (List.mem_of_getElem? (i := 239) (by decide +kernel)) (by decide)
theorem fl_Desk_154 {X : cd_E} : cd_FL X "CertificateDesk" 154 2 7 .int := cd_FL.of rfl rfl (by decide) kw_3_239 (Or.inl rfl)
theorem d_Desk_authorizationState_52 : decode prog_1_method_29_code 52 = .ok (.iconst (-1), 1) := by decide +kernel
theorem d_Desk_authorizationState_53 : decode prog_1_method_29_code 53 = .ok (.if_icmp .ne 7, 3) := by decide +kernel
theorem d_Desk_authorizationState_60 : decode prog_1_method_29_code 60 = .ok (.iconst 1, 1) := by decide +kernel
theorem d_Desk_authorizationState_61 : decode prog_1_method_29_code 61 = .ok (.ireturn, 1) := by decide +kernel
theorem d_Desk_authorizationState_56 : decode prog_1_method_29_code 56 = .ok (.iconst 0, 1) := by decide +kernel
theorem d_Desk_authorizationState_57 : decode prog_1_method_29_code 57 = .ok (.goto 4, 3) := by decide +kernel
theorem d_Desk_authorizationState_46 : decode prog_1_method_29_code 46 = .ok (.iconst 2, 1) := by decide +kernel
theorem d_Desk_authorizationState_47 : decode prog_1_method_29_code 47 = .ok (.ireturn, 1) := by decide +kernel
theorem d_Desk_authorizationState_36 : decode prog_1_method_29_code 36 = .ok (.iconst 4, 1) := by decide +kernel
theorem d_Desk_authorizationState_37 : decode prog_1_method_29_code 37 = .ok (.ireturn, 1) := by decide +kernel
theorem g_Desk_authorizationState {X : cd_E} {kc ks : Nat} {h : cd_H} {Q : Option Value → cd_H → Prop} {p1 : Nat} (F : cc_ok h) (H : (cd_k h p1 = some (.inl 2)) ∧ ((∃ b2 : Nat, (cd_r h p1 1) = some b2 ∧ ((cd_k h b2 = some (.inl 1)) ∧ ((((¬ (cd_i h b2 1) = 0) → (Q (some (.int 3)) h)) ∧ (((cd_i h b2 1) = 0) → ((((¬ (cd_i h p1 5) = 3) → ((((((cd_i h 64 12) - (cd_i h p1 6)) < (cd_i h 64 0)) → ((((¬ (cd_i h p1 5) = 2) → ((((¬ (cd_i h p1 7) = (-1)) → (Q (some (.int 1)) h)) ∧ (((cd_i h p1 7) = (-1)) → (Q (some (.int 0)) h))))) ∧ (((cd_i h p1 5) = 2) → (Q (some (.int 2)) h))))) ∧ ((¬ ((cd_i h 64 12) - (cd_i h p1 6)) < (cd_i h 64 0)) → (Q (some (.int 4)) h))))) ∧ (((cd_i h p1 5) = 3) → (Q (some (.int 3)) h))))))))))) : cd_W X m_Desk_authorizationState kc ks 0 [some (.ref 64), some (.ref p1)] [] h Q := by
  refine cd_aload_n (i := 1) (v := .ref p1) d_Desk_authorizationState_0 rfl rfl (cd_isr_ref _) ?_
  obtain ⟨c1, H⟩ := H
  refine cd_get (v := va_rf (cd_r h p1 1)) d_Desk_authorizationState_1 fl_Desk_246 c1 rfl ?_
  obtain ⟨b2, e3, H⟩ := H
  rw [cd_rfs e3]
  obtain ⟨c4, H⟩ := H
  refine cd_get (v := .int (cd_i h b2 1)) d_Desk_authorizationState_4 fl_Desk_179 c4 rfl ?_
  refine cd_if_ne (tgt := 18) d_Desk_authorizationState_7 (by decide) (fun t5 => ?_) (fun t5 => ?_)
  · replace H := H.1 t5
    refine cd_iconst (v := 3) d_Desk_authorizationState_18 (by decide) ?_
    exact cd_iret d_Desk_authorizationState_19 rfl rfl H
  · replace H := H.2 t5
    refine cd_aload_n (i := 1) (v := .ref p1) d_Desk_authorizationState_10 rfl rfl (cd_isr_ref _) ?_
    refine cd_get (v := .int (cd_i h p1 5)) d_Desk_authorizationState_11 fl_Desk_250 c1 rfl ?_
    refine cd_iconst (v := 3) d_Desk_authorizationState_14 (by decide) ?_
    refine cd_icmp_ne (tgt := 20) d_Desk_authorizationState_15 (by decide) (fun t6 => ?_) (fun t6 => ?_)
    · replace H := H.1 t6
      refine cd_aload_n (i := 0) (v := .ref 64) d_Desk_authorizationState_20 rfl rfl (cd_isr_ref _) ?_
      refine cd_get (v := .int (cd_i h 64 12)) d_Desk_authorizationState_21 fl_Desk_84 (cc_k64 F) rfl ?_
      refine cd_aload_n (i := 1) (v := .ref p1) d_Desk_authorizationState_24 rfl rfl (cd_isr_ref _) ?_
      refine cd_get (v := .int (cd_i h p1 6)) d_Desk_authorizationState_25 fl_Desk_253 c1 rfl ?_
      refine cd_isub d_Desk_authorizationState_28 ?_
      refine cd_aload_n (i := 0) (v := .ref 64) d_Desk_authorizationState_29 rfl rfl (cd_isr_ref _) ?_
      refine cd_get (v := .int (cd_i h 64 0)) d_Desk_authorizationState_30 fl_Desk_7 (cc_k64 F) rfl ?_
      refine cd_icmp_lt (tgt := 38) d_Desk_authorizationState_33 (by decide) (fun t7 => ?_) (fun t7 => ?_)
      · replace H := H.1 t7
        refine cd_aload_n (i := 1) (v := .ref p1) d_Desk_authorizationState_38 rfl rfl (cd_isr_ref _) ?_
        refine cd_get (v := .int (cd_i h p1 5)) d_Desk_authorizationState_39 fl_Desk_250 c1 rfl ?_
        refine cd_iconst (v := 2) d_Desk_authorizationState_42 (by decide) ?_
        refine cd_icmp_ne (tgt := 48) d_Desk_authorizationState_43 (by decide) (fun t8 => ?_) (fun t8 => ?_)
        · replace H := H.1 t8
          refine cd_aload_n (i := 1) (v := .ref p1) d_Desk_authorizationState_48 rfl rfl (cd_isr_ref _) ?_
          refine cd_get (v := .int (cd_i h p1 7)) d_Desk_authorizationState_49 fl_Desk_154 c1 rfl ?_
          refine cd_iconst (v := (-1)) d_Desk_authorizationState_52 (by decide) ?_
          refine cd_icmp_ne (tgt := 60) d_Desk_authorizationState_53 (by decide) (fun t9 => ?_) (fun t9 => ?_)
          · replace H := H.1 t9
            refine cd_iconst (v := 1) d_Desk_authorizationState_60 (by decide) ?_
            exact cd_iret d_Desk_authorizationState_61 rfl rfl H
          · replace H := H.2 t9
            refine cd_iconst (v := 0) d_Desk_authorizationState_56 (by decide) ?_
            refine cd_goto (tgt := 61) d_Desk_authorizationState_57 (by decide) ?_
            exact cd_iret d_Desk_authorizationState_61 rfl rfl H
        · replace H := H.2 t8
          refine cd_iconst (v := 2) d_Desk_authorizationState_46 (by decide) ?_
          exact cd_iret d_Desk_authorizationState_47 rfl rfl H
      · replace H := H.2 t7
        refine cd_iconst (v := 4) d_Desk_authorizationState_36 (by decide) ?_
        exact cd_iret d_Desk_authorizationState_37 rfl rfl H
    · replace H := H.2 t6
      refine cd_iconst (v := 3) d_Desk_authorizationState_18 (by decide) ?_
      exact cd_iret d_Desk_authorizationState_19 rfl rfl H

abbrev m_Desk_isProofPublished : cd_M := (⟨"CertificateDesk", "isProofPublished", "(LCertificateDesk$Authorization;)Z"⟩, prog_1_method_28_code, 2, some .boolean, 30, 657)
theorem d_Desk_isProofPublished_0 : decode prog_1_method_28_code 0 = .ok (.aload_n 1, 1) := by decide +kernel
theorem d_Desk_isProofPublished_1 : decode prog_1_method_28_code 1 = .ok (.getfield 154, 3) := by decide +kernel
theorem d_Desk_isProofPublished_4 : decode prog_1_method_28_code 4 = .ok (.invokestatic 121, 3) := by decide +kernel
theorem kw_4_28 : (Jvm.Cond.methodLink "CertificateDesk" (121 : Nat) ({ cls := "CertificateDesk", name := "isWay", desc := "(I)Z" } : Jvm.MethodName)) ∈ cd_tbl := tb_4 (List.mem_of_getElem? (i := 28) (by decide +kernel)) (by decide)
theorem kw_4_30 : (Jvm.Cond.code ({ cls := "CertificateDesk", name := "isWay", desc := "(I)Z" } : Jvm.MethodName) prog_1_method_26_code (1 : Nat) (Option.some Jvm.ClassFile.FieldType.boolean)) ∈ cd_tbl := tb_4 (List.mem_of_getElem? (i := 30) (by decide +kernel)) (by decide)
theorem kw_1_1 : (Jvm.Cond.initialized "CertificateDesk") ∈ cd_tbl := tb_1 (List.mem_of_getElem? (i := 1) (by decide +kernel)) (by decide)
theorem kw_4_29 : (Jvm.Cond.static ({ cls := "CertificateDesk", name := "isWay", desc := "(I)Z" } : Jvm.MethodName)) ∈ cd_tbl := tb_4 (List.mem_of_getElem? (i := 29) (by decide +kernel)) (by decide)
theorem ca_Desk_isProofPublished_121 {X : cd_E} : cd_CS X m_Desk_isProofPublished m_Desk_isWay 121 1 := ⟨⟨by decide, kw_4_30, kw_1_1, ⟨by decide, by decide, by decide +kernel⟩, by decide, by decide⟩, kw_4_29, (Or.inl kw_4_28)⟩
theorem d_Desk_isProofPublished_7 : decode prog_1_method_28_code 7 = .ok (.ifCond .eq 34, 3) := by decide +kernel
theorem d_Desk_isProofPublished_41 : decode prog_1_method_28_code 41 = .ok (.iconst 0, 1) := by decide +kernel
theorem d_Desk_isProofPublished_42 : decode prog_1_method_28_code 42 = .ok (.ireturn, 1) := by decide +kernel
theorem d_Desk_isProofPublished_10 : decode prog_1_method_28_code 10 = .ok (.aload_n 0, 1) := by decide +kernel
theorem d_Desk_isProofPublished_11 : decode prog_1_method_28_code 11 = .ok (.getfield 59, 3) := by decide +kernel
theorem kw_1_149 : (Jvm.Cond.fieldLink "CertificateDesk" (59 : Nat) "CertificateDesk" "network" "[I") ∈ cd_tbl := tb_1 (List.mem_of_getElem? (i := 149) (by decide +kernel)) (by decide)
theorem fl_Desk_59 {X : cd_E} : cd_FL X "CertificateDesk" 59 0 7 (.array .int) := cd_FL.of rfl rfl (by decide) kw_1_149 (Or.inl rfl)
theorem d_Desk_isProofPublished_14 : decode prog_1_method_28_code 14 = .ok (.aload_n 1, 1) := by decide +kernel
theorem d_Desk_isProofPublished_15 : decode prog_1_method_28_code 15 = .ok (.getfield 154, 3) := by decide +kernel
theorem d_Desk_isProofPublished_18 : decode prog_1_method_28_code 18 = .ok (.aload_n 1, 1) := by decide +kernel
theorem d_Desk_isProofPublished_19 : decode prog_1_method_28_code 19 = .ok (.invokestatic 125, 3) := by decide +kernel
theorem kw_4_166 : (Jvm.Cond.methodLink "CertificateDesk" (125 : Nat) ({ cls := "CertificateDesk", name := "slot", desc := "(ILCertificateDesk$Authorization;)I" } : Jvm.MethodName)) ∈ cd_tbl := tb_4 (List.mem_of_getElem? (i := 166) (by decide +kernel)) (by decide)
theorem kw_4_168 : (Jvm.Cond.code ({ cls := "CertificateDesk", name := "slot", desc := "(ILCertificateDesk$Authorization;)I" } : Jvm.MethodName) prog_1_method_27_code (2 : Nat) (Option.some Jvm.ClassFile.FieldType.int)) ∈ cd_tbl := tb_4 (List.mem_of_getElem? (i := 168) (by decide +kernel)) (by decide)
theorem kw_4_167 : (Jvm.Cond.static ({ cls := "CertificateDesk", name := "slot", desc := "(ILCertificateDesk$Authorization;)I" } : Jvm.MethodName)) ∈ cd_tbl := tb_4 (List.mem_of_getElem? (i := 167) (by decide +kernel)) (by decide)
theorem ca_Desk_isProofPublished_125 {X : cd_E} : cd_CS X m_Desk_isProofPublished m_Desk_slot 125 2 := ⟨⟨by decide, kw_4_168, kw_1_1, ⟨by decide, by decide, by decide +kernel⟩, by decide, by decide⟩, kw_4_167, (Or.inl kw_4_166)⟩
theorem d_Desk_isProofPublished_22 : decode prog_1_method_28_code 22 = .ok (.iaload, 1) := by decide +kernel
theorem d_Desk_isProofPublished_23 : decode prog_1_method_28_code 23 = .ok (.aload_n 1, 1) := by decide +kernel
theorem d_Desk_isProofPublished_24 : decode prog_1_method_28_code 24 = .ok (.aload_n 1, 1) := by decide +kernel
theorem d_Desk_isProofPublished_25 : decode prog_1_method_28_code 25 = .ok (.getfield 246, 3) := by decide +kernel
theorem d_Desk_isProofPublished_28 : decode prog_1_method_28_code 28 = .ok (.getfield 184, 3) := by decide +kernel
theorem kw_2_158 : (Jvm.Cond.fieldLink "CertificateDesk" (184 : Nat) "CertificateDesk$Account" "key" "LCertificateDesk$Key;") ∈ cd_tbl := tb_2 (List.mem_of_getElem? (i := 158) (by decide +kernel)) (by decide)
theorem fl_Desk_184 {X : cd_E} : cd_FL X "CertificateDesk" 184 1 0 (.object "CertificateDesk$Key") := cd_FL.of rfl rfl (by decide) kw_2_158 (Or.inl rfl)
theorem d_Desk_isProofPublished_31 : decode prog_1_method_28_code 31 = .ok (.invokevirtual 129, 3) := by decide +kernel
theorem kw_4_169 : (Jvm.Cond.methodLink "CertificateDesk" (129 : Nat) ({ cls := "CertificateDesk$Authorization", name := "proof", desc := "(LCertificateDesk$Key;)I" } : Jvm.MethodName)) ∈ cd_tbl := tb_4 (List.mem_of_getElem? (i := 169) (by decide +kernel)) (by decide)
theorem kw_4_172 : (Jvm.Cond.code ({ cls := "CertificateDesk$Authorization", name := "proof", desc := "(LCertificateDesk$Key;)I" } : Jvm.MethodName) prog_3_method_4_code (3 : Nat) (Option.some Jvm.ClassFile.FieldType.int)) ∈ cd_tbl := tb_4 (List.mem_of_getElem? (i := 172) (by decide +kernel)) (by decide)
theorem kw_4_170 : (Jvm.Cond.instanceMethod ({ cls := "CertificateDesk$Authorization", name := "proof", desc := "(LCertificateDesk$Key;)I" } : Jvm.MethodName)) ∈ cd_tbl := tb_4 (List.mem_of_getElem? (i := 170) (by decide +kernel)) (by decide)
theorem kw_4_171 : (Jvm.Cond.selects "CertificateDesk$Authorization" ({ cls := "CertificateDesk$Authorization", name := "proof", desc := "(LCertificateDesk$Key;)I" } : Jvm.MethodName) ({ cls := "CertificateDesk$Authorization", name := "proof", desc := "(LCertificateDesk$Key;)I" } : Jvm.MethodName)) ∈ cd_tbl := tb_4 (List.mem_of_getElem? (i := 171) (by decide +kernel)) (by decide)
theorem ca_Desk_isProofPublished_129 {X : cd_E} : cd_CV X m_Desk_isProofPublished m_Aut_proof 129 1 2 := ⟨⟨by decide, kw_4_172, kw_1_26, ⟨by decide, by decide, by decide +kernel⟩, by decide, by decide⟩, ⟨_, rfl, rfl⟩, kw_4_170, kw_4_171, (Or.inl kw_4_169)⟩
theorem d_Desk_isProofPublished_34 : decode prog_1_method_28_code 34 = .ok (.if_icmp .ne 7, 3) := by decide +kernel
theorem d_Desk_isProofPublished_37 : decode prog_1_method_28_code 37 = .ok (.iconst 1, 1) := by decide +kernel
theorem d_Desk_isProofPublished_38 : decode prog_1_method_28_code 38 = .ok (.goto 4, 3) := by decide +kernel
theorem g_Desk_isProofPublished {X : cd_E} {kc ks : Nat} {h : cd_H} {Q : Option Value → cd_H → Prop} {p1 : Nat} (F : cc_ok h) (H : (cd_k h p1 = some (.inl 2)) ∧ (cd_W X m_Desk_isWay 0 0 0 [some (.int (cd_i h p1 7))] [] h (fun r2 h3 => ∃ x4 : Int32, r2 = some (.int x4) ∧ ((cc_ok h3) ∧ ((((x4 = 0) → (Q (some (.int 0)) h3)) ∧ ((¬ x4 = 0) → ((cd_k h3 p1 = some (.inl 2)) ∧ (cd_W X m_Desk_slot 0 0 0 [some (.int (cd_i h3 p1 7)), some (.ref p1)] [] h3 (fun r8 h9 => ∃ x10 : Int32, r8 = some (.int x10) ∧ ((cc_ok h9) ∧ ((vp_in x10 48) ∧ ((cd_k h9 p1 = some (.inl 2)) ∧ ((∃ b14 : Nat, (cd_r h9 p1 1) = some b14 ∧ ((cd_k h9 b14 = some (.inl 1)) ∧ ((∃ b17 : Nat, (cd_r h9 b14 0) = some b17 ∧ (cd_W X m_Aut_proof 0 0 0 [some (.ref p1), some (.ref b17), none] [] h9 (fun r19 h20 => ∃ x21 : Int32, r19 = some (.int x21) ∧ ((cc_ok h20) ∧ ((((¬ (cd_i h9 77 x10.toNatClampNeg) = x21) → (Q (some (.int 0)) h20)) ∧ (((cd_i h9 77 x10.toNatClampNeg) = x21) → (Q (some (.int 1)) h20))))))))))))))))))))))))) : cd_W X m_Desk_isProofPublished kc ks 0 [some (.ref 64), some (.ref p1)] [] h Q := by
  refine cd_aload_n (i := 1) (v := .ref p1) d_Desk_isProofPublished_0 rfl rfl (cd_isr_ref _) ?_
  obtain ⟨c1, H⟩ := H
  refine cd_get (v := .int (cd_i h p1 7)) d_Desk_isProofPublished_1 fl_Desk_154 c1 rfl ?_
  refine cd_callS (kc := kc) (ks := ks) (kc' := 0) (ks' := 0) (As := [.int (cd_i h p1 7)]) (S := []) d_Desk_isProofPublished_4 ca_Desk_isProofPublished_121 rfl (Nat.le_of_ble_eq_true rfl) (Nat.le_of_ble_eq_true rfl) ?_
  refine cd_W.mono (fun r2 h3 H => ?_) H
  obtain ⟨x4, rfl, H⟩ := H
  obtain ⟨F5, H⟩ := H
  show cd_W X m_Desk_isProofPublished kc ks 7 [some (.ref 64), some (.ref p1)] [.int x4] h3 Q
  refine cd_if_eq (tgt := 41) d_Desk_isProofPublished_7 (by decide) (fun t6 => ?_) (fun t6 => ?_)
  · replace H := H.1 t6
    refine cd_iconst (v := 0) d_Desk_isProofPublished_41 (by decide) ?_
    exact cd_iret d_Desk_isProofPublished_42 rfl rfl H
  · replace H := H.2 t6
    refine cd_aload_n (i := 0) (v := .ref 64) d_Desk_isProofPublished_10 rfl rfl (cd_isr_ref _) ?_
    refine cd_get (v := .ref 77) d_Desk_isProofPublished_11 fl_Desk_59 (cc_k64 F5) (congrArg va_rf (cc_r64_7 F5)) ?_
    refine cd_aload_n (i := 1) (v := .ref p1) d_Desk_isProofPublished_14 rfl rfl (cd_isr_ref _) ?_
    obtain ⟨c7, H⟩ := H
    refine cd_get (v := .int (cd_i h3 p1 7)) d_Desk_isProofPublished_15 fl_Desk_154 c7 rfl ?_
    refine cd_aload_n (i := 1) (v := .ref p1) d_Desk_isProofPublished_18 rfl rfl (cd_isr_ref _) ?_
    refine cd_callS (kc := kc) (ks := ks) (kc' := 0) (ks' := 0) (As := [.int (cd_i h3 p1 7), .ref p1]) (S := [.ref 77]) d_Desk_isProofPublished_19 ca_Desk_isProofPublished_125 rfl (Nat.le_of_ble_eq_true rfl) (Nat.le_of_ble_eq_true rfl) ?_
    refine cd_W.mono (fun r8 h9 H => ?_) H
    obtain ⟨x10, rfl, H⟩ := H
    obtain ⟨F11, H⟩ := H
    show cd_W X m_Desk_isProofPublished kc ks 22 [some (.ref 64), some (.ref p1)] [.int x10, .ref 77] h9 Q
    obtain ⟨c12, H⟩ := H
    refine cd_iald (j := x10) d_Desk_isProofPublished_22 rfl (cc_k77 F11) c12 ?_
    refine cd_aload_n (i := 1) (v := .ref p1) d_Desk_isProofPublished_23 rfl rfl (cd_isr_ref _) ?_
    refine cd_aload_n (i := 1) (v := .ref p1) d_Desk_isProofPublished_24 rfl rfl (cd_isr_ref _) ?_
    obtain ⟨c13, H⟩ := H
    refine cd_get (v := va_rf (cd_r h9 p1 1)) d_Desk_isProofPublished_25 fl_Desk_246 c13 rfl ?_
    obtain ⟨b14, e15, H⟩ := H
    rw [cd_rfs e15]
    obtain ⟨c16, H⟩ := H
    refine cd_get (v := va_rf (cd_r h9 b14 0)) d_Desk_isProofPublished_28 fl_Desk_184 c16 rfl ?_
    obtain ⟨b17, e18, H⟩ := H
    rw [cd_rfs e18]
    refine cd_callV (kc := kc) (ks := ks) (kc' := 0) (ks' := 0) (As := [.ref b17]) (S := [.int (cd_i h9 77 x10.toNatClampNeg)]) d_Desk_isProofPublished_31 ca_Desk_isProofPublished_129 c13 rfl (Nat.le_of_ble_eq_true rfl) (Nat.le_of_ble_eq_true rfl) ?_
    refine cd_W.mono (fun r19 h20 H => ?_) H
    obtain ⟨x21, rfl, H⟩ := H
    obtain ⟨F22, H⟩ := H
    show cd_W X m_Desk_isProofPublished kc ks 34 [some (.ref 64), some (.ref p1)] [.int x21, .int (cd_i h9 77 x10.toNatClampNeg)] h20 Q
    refine cd_icmp_ne (tgt := 41) d_Desk_isProofPublished_34 (by decide) (fun t23 => ?_) (fun t23 => ?_)
    · replace H := H.1 t23
      refine cd_iconst (v := 0) d_Desk_isProofPublished_41 (by decide) ?_
      exact cd_iret d_Desk_isProofPublished_42 rfl rfl H
    · replace H := H.2 t23
      refine cd_iconst (v := 1) d_Desk_isProofPublished_37 (by decide) ?_
      refine cd_goto (tgt := 42) d_Desk_isProofPublished_38 (by decide) ?_
      exact cd_iret d_Desk_isProofPublished_42 rfl rfl H

abbrev m_Desk_orderState : cd_M := (⟨"CertificateDesk", "orderState", "(LCertificateDesk$Order;)I"⟩, prog_1_method_30_code, 5, some .int, 11, 239)
theorem d_Desk_orderState_0 : decode prog_1_method_30_code 0 = .ok (.aload_n 1, 1) := by decide +kernel
theorem d_Desk_orderState_1 : decode prog_1_method_30_code 1 = .ok (.getfield 207, 3) := by decide +kernel
theorem kw_3_47 : (Jvm.Cond.fieldLink "CertificateDesk" (207 : Nat) "CertificateDesk$Order" "certificate" "I") ∈ cd_tbl := tb_3 (List.mem_of_getElem? (i := 47) (by decide +kernel)) (by decide)
theorem fl_Desk_207 {X : cd_E} : cd_FL X "CertificateDesk" 207 8 3 .int := cd_FL.of rfl rfl (by decide) kw_3_47 (Or.inl rfl)
theorem d_Desk_orderState_4 : decode prog_1_method_30_code 4 = .ok (.iconst (-1), 1) := by decide +kernel
theorem d_Desk_orderState_5 : decode prog_1_method_30_code 5 = .ok (.if_icmp .eq 5, 3) := by decide +kernel
theorem d_Desk_orderState_10 : decode prog_1_method_30_code 10 = .ok (.aload_n 0, 1) := by decide +kernel
theorem d_Desk_orderState_11 : decode prog_1_method_30_code 11 = .ok (.getfield 84, 3) := by decide +kernel
theorem d_Desk_orderState_14 : decode prog_1_method_30_code 14 = .ok (.aload_n 1, 1) := by decide +kernel
theorem d_Desk_orderState_15 : decode prog_1_method_30_code 15 = .ok (.getfield 256, 3) := by decide +kernel
theorem kw_3_43 : (Jvm.Cond.fieldLink "CertificateDesk" (256 : Nat) "CertificateDesk$Order" "made" "I") ∈ cd_tbl := tb_3 (List.mem_of_getElem? (i := 43) (by decide +kernel)) (by decide)
theorem fl_Desk_256 {X : cd_E} : cd_FL X "CertificateDesk" 256 8 1 .int := cd_FL.of rfl rfl (by decide) kw_3_43 (Or.inl rfl)
theorem d_Desk_orderState_18 : decode prog_1_method_30_code 18 = .ok (.isub, 1) := by decide +kernel
theorem d_Desk_orderState_19 : decode prog_1_method_30_code 19 = .ok (.iconst 2, 1) := by decide +kernel
theorem d_Desk_orderState_20 : decode prog_1_method_30_code 20 = .ok (.aload_n 0, 1) := by decide +kernel
theorem d_Desk_orderState_21 : decode prog_1_method_30_code 21 = .ok (.getfield 7, 3) := by decide +kernel
theorem d_Desk_orderState_24 : decode prog_1_method_30_code 24 = .ok (.imul, 1) := by decide +kernel
theorem d_Desk_orderState_25 : decode prog_1_method_30_code 25 = .ok (.if_icmp .lt 5, 3) := by decide +kernel
theorem d_Desk_orderState_30 : decode prog_1_method_30_code 30 = .ok (.iconst 1, 1) := by decide +kernel
theorem d_Desk_orderState_31 : decode prog_1_method_30_code 31 = .ok (.istore_n 2, 1) := by decide +kernel
theorem d_Desk_orderState_32 : decode prog_1_method_30_code 32 = .ok (.iconst 0, 1) := by decide +kernel
theorem d_Desk_orderState_33 : decode prog_1_method_30_code 33 = .ok (.istore_n 3, 1) := by decide +kernel
theorem d_Desk_orderState_28 : decode prog_1_method_30_code 28 = .ok (.iconst 3, 1) := by decide +kernel
theorem d_Desk_orderState_29 : decode prog_1_method_30_code 29 = .ok (.ireturn, 1) := by decide +kernel
theorem d_Desk_orderState_8 : decode prog_1_method_30_code 8 = .ok (.iconst 2, 1) := by decide +kernel
theorem d_Desk_orderState_9 : decode prog_1_method_30_code 9 = .ok (.ireturn, 1) := by decide +kernel
theorem g_Desk_orderState {X : cd_E} {kc ks : Nat} {h : cd_H} {Q : Option Value → cd_H → Prop} {p1 : Nat} (F : cc_ok h) (H : (cd_k h p1 = some (.inl 8)) ∧ (((((cd_i h p1 3) = (-1)) → ((((((cd_i h 64 12) - (cd_i h p1 1)) < (2 * (cd_i h 64 0))) → (cd_W X m_Desk_orderState kc ks 34 [some (.ref 64), some (.ref p1), some (.int 1), some (.int 0), none] [] h Q)) ∧ ((¬ ((cd_i h 64 12) - (cd_i h p1 1)) < (2 * (cd_i h 64 0))) → (Q (some (.int 3)) h))))) ∧ ((¬ (cd_i h p1 3) = (-1)) → (Q (some (.int 2)) h))))) : cd_W X m_Desk_orderState kc ks 0 [some (.ref 64), some (.ref p1), none, none, none] [] h Q := by
  refine cd_aload_n (i := 1) (v := .ref p1) d_Desk_orderState_0 rfl rfl (cd_isr_ref _) ?_
  obtain ⟨c1, H⟩ := H
  refine cd_get (v := .int (cd_i h p1 3)) d_Desk_orderState_1 fl_Desk_207 c1 rfl ?_
  refine cd_iconst (v := (-1)) d_Desk_orderState_4 (by decide) ?_
  refine cd_icmp_eq (tgt := 10) d_Desk_orderState_5 (by decide) (fun t2 => ?_) (fun t2 => ?_)
  · replace H := H.1 t2
    refine cd_aload_n (i := 0) (v := .ref 64) d_Desk_orderState_10 rfl rfl (cd_isr_ref _) ?_
    refine cd_get (v := .int (cd_i h 64 12)) d_Desk_orderState_11 fl_Desk_84 (cc_k64 F) rfl ?_
    refine cd_aload_n (i := 1) (v := .ref p1) d_Desk_orderState_14 rfl rfl (cd_isr_ref _) ?_
    refine cd_get (v := .int (cd_i h p1 1)) d_Desk_orderState_15 fl_Desk_256 c1 rfl ?_
    refine cd_isub d_Desk_orderState_18 ?_
    refine cd_iconst (v := 2) d_Desk_orderState_19 (by decide) ?_
    refine cd_aload_n (i := 0) (v := .ref 64) d_Desk_orderState_20 rfl rfl (cd_isr_ref _) ?_
    refine cd_get (v := .int (cd_i h 64 0)) d_Desk_orderState_21 fl_Desk_7 (cc_k64 F) rfl ?_
    refine cd_imul d_Desk_orderState_24 ?_
    refine cd_icmp_lt (tgt := 30) d_Desk_orderState_25 (by decide) (fun t3 => ?_) (fun t3 => ?_)
    · replace H := H.1 t3
      refine cd_iconst (v := 1) d_Desk_orderState_30 (by decide) ?_
      refine cd_istore_n (i := 2) d_Desk_orderState_31 rfl (by decide) ?_
      show cd_W X m_Desk_orderState kc ks 32 [some (.ref 64), some (.ref p1), some (.int 1), none, none] [] h Q
      refine cd_iconst (v := 0) d_Desk_orderState_32 (by decide) ?_
      refine cd_istore_n (i := 3) d_Desk_orderState_33 rfl (by decide) ?_
      show cd_W X m_Desk_orderState kc ks 34 [some (.ref 64), some (.ref p1), some (.int 1), some (.int 0), none] [] h Q
      exact H
    · replace H := H.2 t3
      refine cd_iconst (v := 3) d_Desk_orderState_28 (by decide) ?_
      exact cd_iret d_Desk_orderState_29 rfl rfl H
  · replace H := H.2 t2
    refine cd_iconst (v := 2) d_Desk_orderState_8 (by decide) ?_
    exact cd_iret d_Desk_orderState_9 rfl rfl H

theorem d_Desk_orderState_34 : decode prog_1_method_30_code 34 = .ok (.iload_n 3, 1) := by decide +kernel
theorem d_Desk_orderState_35 : decode prog_1_method_30_code 35 = .ok (.aload_n 1, 1) := by decide +kernel
theorem d_Desk_orderState_36 : decode prog_1_method_30_code 36 = .ok (.getfield 198, 3) := by decide +kernel
theorem kw_3_45 : (Jvm.Cond.fieldLink "CertificateDesk" (198 : Nat) "CertificateDesk$Order" "parts" "Ljava/util/ArrayList;") ∈ cd_tbl := tb_3 (List.mem_of_getElem? (i := 45) (by decide +kernel)) (by decide)
theorem fl_Desk_198 {X : cd_E} : cd_FL X "CertificateDesk" 198 8 2 (.object "java/util/ArrayList") := cd_FL.of rfl rfl (by decide) kw_3_45 (Or.inl rfl)
theorem d_Desk_orderState_39 : decode prog_1_method_30_code 39 = .ok (.invokevirtual 135, 3) := by decide +kernel
theorem ca_Desk_orderState_135 {X : cd_E} : cd_CV X m_Desk_orderState m_AL_size 135 0 12 := ⟨⟨by decide, kw_2_11, kw_1_9, ⟨by decide, by decide, by decide +kernel⟩, by decide, by decide⟩, ⟨_, rfl, rfl⟩, kw_2_9, kw_2_10, (Or.inl kw_2_8)⟩
theorem d_Desk_orderState_42 : decode prog_1_method_30_code 42 = .ok (.if_icmp .ge 56, 3) := by decide +kernel
theorem d_Desk_orderState_98 : decode prog_1_method_30_code 98 = .ok (.iload_n 2, 1) := by decide +kernel
theorem d_Desk_orderState_99 : decode prog_1_method_30_code 99 = .ok (.ifCond .eq 7, 3) := by decide +kernel
theorem d_Desk_orderState_106 : decode prog_1_method_30_code 106 = .ok (.iconst 0, 1) := by decide +kernel
theorem d_Desk_orderState_107 : decode prog_1_method_30_code 107 = .ok (.ireturn, 1) := by decide +kernel
theorem d_Desk_orderState_102 : decode prog_1_method_30_code 102 = .ok (.iconst 1, 1) := by decide +kernel
theorem d_Desk_orderState_103 : decode prog_1_method_30_code 103 = .ok (.goto 4, 3) := by decide +kernel
theorem d_Desk_orderState_45 : decode prog_1_method_30_code 45 = .ok (.aload_n 0, 1) := by decide +kernel
theorem d_Desk_orderState_46 : decode prog_1_method_30_code 46 = .ok (.aload_n 1, 1) := by decide +kernel
theorem d_Desk_orderState_47 : decode prog_1_method_30_code 47 = .ok (.getfield 198, 3) := by decide +kernel
theorem d_Desk_orderState_50 : decode prog_1_method_30_code 50 = .ok (.iload_n 3, 1) := by decide +kernel
theorem d_Desk_orderState_51 : decode prog_1_method_30_code 51 = .ok (.invokevirtual 138, 3) := by decide +kernel
theorem ca_Desk_orderState_138 {X : cd_E} : cd_CV X m_Desk_orderState m_AL_get 138 1 12 := ⟨⟨by decide, kw_2_15, kw_1_9, ⟨by decide, by decide, by decide +kernel⟩, by decide, by decide⟩, ⟨_, rfl, rfl⟩, kw_2_13, kw_2_14, (Or.inl kw_2_12)⟩
theorem d_Desk_orderState_54 : decode prog_1_method_30_code 54 = .ok (.checkcast 130, 3) := by decide +kernel
theorem d_Desk_orderState_57 : decode prog_1_method_30_code 57 = .ok (.invokevirtual 142, 3) := by decide +kernel
theorem kw_3_23 : (Jvm.Cond.methodLink "CertificateDesk" (142 : Nat) ({ cls := "CertificateDesk", name := "authorizationState", desc := "(LCertificateDesk$Authorization;)I" } : Jvm.MethodName)) ∈ cd_tbl := tb_3 (List.mem_of_getElem? (i := 23) (by decide +kernel)) (by decide)
theorem kw_3_26 : (Jvm.Cond.code ({ cls := "CertificateDesk", name := "authorizationState", desc := "(LCertificateDesk$Authorization;)I" } : Jvm.MethodName) prog_1_method_29_code (2 : Nat) (Option.some Jvm.ClassFile.FieldType.int)) ∈ cd_tbl := tb_3 (List.mem_of_getElem? (i := 26) (by decide +kernel)) (by decide)
theorem kw_3_25 : (Jvm.Cond.instanceMethod ({ cls := "CertificateDesk", name := "authorizationState", desc := "(LCertificateDesk$Authorization;)I" } : Jvm.MethodName)) ∈ cd_tbl := tb_3 (List.mem_of_getElem? (i := 25) (by decide +kernel)) (by decide)
theorem kp_20 : Cond.selects "CertificateDesk" ⟨"CertificateDesk", "authorizationState", "(LCertificateDesk$Authorization;)I"⟩ ⟨"CertificateDesk", "authorizationState", "(LCertificateDesk$Authorization;)I"⟩ ∈ cd_tbl := cd_sel (List.mem_of_getElem? (i := 20) (by decide +kernel)) (by decide)
theorem ca_Desk_orderState_142 {X : cd_E} : cd_CV X m_Desk_orderState m_Desk_authorizationState 142 1 0 := ⟨⟨by decide, kw_3_26, kw_1_1, ⟨by decide, by decide, by decide +kernel⟩, by decide, by decide⟩, ⟨_, rfl, rfl⟩, kw_3_25, kp_20, (Or.inl kw_3_23)⟩
theorem d_Desk_orderState_60 : decode prog_1_method_30_code 60 = .ok (.istore 4, 2) := by decide +kernel
theorem d_Desk_orderState_62 : decode prog_1_method_30_code 62 = .ok (.iload 4, 2) := by decide +kernel
theorem d_Desk_orderState_64 : decode prog_1_method_30_code 64 = .ok (.iconst 3, 1) := by decide +kernel
theorem d_Desk_orderState_65 : decode prog_1_method_30_code 65 = .ok (.if_icmp .eq 9, 3) := by decide +kernel
theorem d_Desk_orderState_74 : decode prog_1_method_30_code 74 = .ok (.iconst 3, 1) := by decide +kernel
theorem d_Desk_orderState_75 : decode prog_1_method_30_code 75 = .ok (.ireturn, 1) := by decide +kernel
theorem d_Desk_orderState_68 : decode prog_1_method_30_code 68 = .ok (.iload 4, 2) := by decide +kernel
theorem d_Desk_orderState_70 : decode prog_1_method_30_code 70 = .ok (.iconst 4, 1) := by decide +kernel
theorem d_Desk_orderState_71 : decode prog_1_method_30_code 71 = .ok (.if_icmp .ne 5, 3) := by decide +kernel
theorem d_Desk_orderState_76 : decode prog_1_method_30_code 76 = .ok (.iload_n 2, 1) := by decide +kernel
theorem d_Desk_orderState_77 : decode prog_1_method_30_code 77 = .ok (.ifCond .eq 13, 3) := by decide +kernel
theorem d_Desk_orderState_90 : decode prog_1_method_30_code 90 = .ok (.iconst 0, 1) := by decide +kernel
theorem d_Desk_orderState_91 : decode prog_1_method_30_code 91 = .ok (.istore_n 2, 1) := by decide +kernel
theorem d_Desk_orderState_92 : decode prog_1_method_30_code 92 = .ok (.iinc 3 1, 3) := by decide +kernel
theorem d_Desk_orderState_95 : decode prog_1_method_30_code 95 = .ok (.goto (-61), 3) := by decide +kernel
theorem d_Desk_orderState_80 : decode prog_1_method_30_code 80 = .ok (.iload 4, 2) := by decide +kernel
theorem d_Desk_orderState_82 : decode prog_1_method_30_code 82 = .ok (.iconst 2, 1) := by decide +kernel
theorem d_Desk_orderState_83 : decode prog_1_method_30_code 83 = .ok (.if_icmp .ne 7, 3) := by decide +kernel
theorem d_Desk_orderState_86 : decode prog_1_method_30_code 86 = .ok (.iconst 1, 1) := by decide +kernel
theorem d_Desk_orderState_87 : decode prog_1_method_30_code 87 = .ok (.goto 4, 3) := by decide +kernel
theorem g_Desk_orderState_34 {X : cd_E} {kc ks : Nat} {h : cd_H} {Q : Option Value → cd_H → Prop} {v1 : Nat} {v2 : Int32} {v3 : Int32} (F : cc_ok h) (H : (cd_k h v1 = some (.inl 8)) ∧ ((∃ b2 : Nat, (cd_r h v1 2) = some b2 ∧ ((cd_k h b2 = some (.inl 12)) ∧ (cd_W X m_AL_size 0 0 0 [some (.ref b2)] [] h (fun r5 h6 => ∃ x7 : Int32, r5 = some (.int x7) ∧ ((cc_ok h6) ∧ ((((x7 ≤ v3) → ((((v2 = 0) → (Q (some (.int 0)) h6)) ∧ ((¬ v2 = 0) → (Q (some (.int 1)) h6))))) ∧ ((¬ x7 ≤ v3) → ((cd_k h6 v1 = some (.inl 8)) ∧ ((∃ b12 : Nat, (cd_r h6 v1 2) = some b12 ∧ ((cd_k h6 b12 = some (.inl 12)) ∧ (cd_W X m_AL_get 0 0 0 [some (.ref b12), some (.int v3)] [] h6 (fun r15 h16 => ∃ o17 : Option Nat, r15 = some (va_rf o17) ∧ ((cc_ok h16) ∧ ((∃ b19 : Nat, o17 = some b19 ∧ ((cd_k h16 b19 = some (.inl 2)) ∧ (cd_W X m_Desk_authorizationState 0 0 0 [some (.ref 64), some (.ref b19)] [] h16 (fun r22 h23 => ∃ x24 : Int32, r22 = some (.int x24) ∧ ((cc_ok h23) ∧ ((((x24 = 3) → (Q (some (.int 3)) h23)) ∧ ((¬ x24 = 3) → ((((¬ x24 = 4) → ((((v2 = 0) → (cd_W X m_Desk_orderState kc ks 34 [some (.ref 64), some (.ref v1), some (.int 0), some (.int (v3 + 1)), none] [] h23 Q)) ∧ ((¬ v2 = 0) → ((((¬ x24 = 2) → (cd_W X m_Desk_orderState kc ks 34 [some (.ref 64), some (.ref v1), some (.int 0), some (.int (v3 + 1)), none] [] h23 Q)) ∧ ((x24 = 2) → (cd_W X m_Desk_orderState kc ks 34 [some (.ref 64), some (.ref v1), some (.int 1), some (.int (v3 + 1)), none] [] h23 Q)))))))) ∧ ((x24 = 4) → (Q (some (.int 3)) h23)))))))))))))))))))))))))))))) : cd_W X m_Desk_orderState kc ks 34 [some (.ref 64), some (.ref v1), some (.int v2), some (.int v3), none] [] h Q := by
  refine cd_iload_n (i := 3) d_Desk_orderState_34 rfl rfl ?_
  refine cd_aload_n (i := 1) (v := .ref v1) d_Desk_orderState_35 rfl rfl (cd_isr_ref _) ?_
  obtain ⟨c1, H⟩ := H
  refine cd_get (v := va_rf (cd_r h v1 2)) d_Desk_orderState_36 fl_Desk_198 c1 rfl ?_
  obtain ⟨b2, e3, H⟩ := H
  rw [cd_rfs e3]
  obtain ⟨c4, H⟩ := H
  refine cd_callV (kc := kc) (ks := ks) (kc' := 0) (ks' := 0) (As := []) (S := [.int v3]) d_Desk_orderState_39 ca_Desk_orderState_135 c4 rfl (Nat.le_of_ble_eq_true rfl) (Nat.le_of_ble_eq_true rfl) ?_
  refine cd_W.mono (fun r5 h6 H => ?_) H
  obtain ⟨x7, rfl, H⟩ := H
  obtain ⟨F8, H⟩ := H
  show cd_W X m_Desk_orderState kc ks 42 [some (.ref 64), some (.ref v1), some (.int v2), some (.int v3), none] [.int x7, .int v3] h6 Q
  refine cd_icmp_ge (tgt := 98) d_Desk_orderState_42 (by decide) (fun t9 => ?_) (fun t9 => ?_)
  · replace H := H.1 t9
    refine cd_iload_n (i := 2) d_Desk_orderState_98 rfl rfl ?_
    refine cd_if_eq (tgt := 106) d_Desk_orderState_99 (by decide) (fun t10 => ?_) (fun t10 => ?_)
    · replace H := H.1 t10
      refine cd_iconst (v := 0) d_Desk_orderState_106 (by decide) ?_
      exact cd_iret d_Desk_orderState_107 rfl rfl H
    · replace H := H.2 t10
      refine cd_iconst (v := 1) d_Desk_orderState_102 (by decide) ?_
      refine cd_goto (tgt := 107) d_Desk_orderState_103 (by decide) ?_
      exact cd_iret d_Desk_orderState_107 rfl rfl H
  · replace H := H.2 t9
    refine cd_aload_n (i := 0) (v := .ref 64) d_Desk_orderState_45 rfl rfl (cd_isr_ref _) ?_
    refine cd_aload_n (i := 1) (v := .ref v1) d_Desk_orderState_46 rfl rfl (cd_isr_ref _) ?_
    obtain ⟨c11, H⟩ := H
    refine cd_get (v := va_rf (cd_r h6 v1 2)) d_Desk_orderState_47 fl_Desk_198 c11 rfl ?_
    refine cd_iload_n (i := 3) d_Desk_orderState_50 rfl rfl ?_
    obtain ⟨b12, e13, H⟩ := H
    rw [cd_rfs e13]
    obtain ⟨c14, H⟩ := H
    refine cd_callV (kc := kc) (ks := ks) (kc' := 0) (ks' := 0) (As := [.int v3]) (S := [.ref 64]) d_Desk_orderState_51 ca_Desk_orderState_138 c14 rfl (Nat.le_of_ble_eq_true rfl) (Nat.le_of_ble_eq_true rfl) ?_
    refine cd_W.mono (fun r15 h16 H => ?_) H
    obtain ⟨o17, rfl, H⟩ := H
    obtain ⟨F18, H⟩ := H
    show cd_W X m_Desk_orderState kc ks 54 [some (.ref 64), some (.ref v1), some (.int v2), some (.int v3), none] [va_rf o17, .ref 64] h16 Q
    obtain ⟨b19, e20, H⟩ := H
    rw [cd_rfs e20]
    obtain ⟨c21, H⟩ := H
    refine cd_cast d_Desk_orderState_54 rfl ⟨kw_2_151, kw_3_208⟩ c21 ?_
    refine cd_callV (kc := kc) (ks := ks) (kc' := 0) (ks' := 0) (As := [.ref b19]) (S := []) d_Desk_orderState_57 ca_Desk_orderState_142 (cc_k64 F18) rfl (Nat.le_of_ble_eq_true rfl) (Nat.le_of_ble_eq_true rfl) ?_
    refine cd_W.mono (fun r22 h23 H => ?_) H
    obtain ⟨x24, rfl, H⟩ := H
    obtain ⟨F25, H⟩ := H
    show cd_W X m_Desk_orderState kc ks 60 [some (.ref 64), some (.ref v1), some (.int v2), some (.int v3), none] [.int x24] h23 Q
    refine cd_istore (i := 4) d_Desk_orderState_60 (by decide) ?_
    show cd_W X m_Desk_orderState kc ks 62 [some (.ref 64), some (.ref v1), some (.int v2), some (.int v3), some (.int x24)] [] h23 Q
    refine cd_iload (i := 4) d_Desk_orderState_62 rfl ?_
    refine cd_iconst (v := 3) d_Desk_orderState_64 (by decide) ?_
    refine cd_icmp_eq (tgt := 74) d_Desk_orderState_65 (by decide) (fun t26 => ?_) (fun t26 => ?_)
    · replace H := H.1 t26
      refine cd_iconst (v := 3) d_Desk_orderState_74 (by decide) ?_
      exact cd_iret d_Desk_orderState_75 rfl rfl H
    · replace H := H.2 t26
      refine cd_iload (i := 4) d_Desk_orderState_68 rfl ?_
      refine cd_iconst (v := 4) d_Desk_orderState_70 (by decide) ?_
      refine cd_icmp_ne (tgt := 76) d_Desk_orderState_71 (by decide) (fun t27 => ?_) (fun t27 => ?_)
      · replace H := H.1 t27
        refine cd_iload_n (i := 2) d_Desk_orderState_76 rfl rfl ?_
        refine cd_if_eq (tgt := 90) d_Desk_orderState_77 (by decide) (fun t28 => ?_) (fun t28 => ?_)
        · replace H := H.1 t28
          refine cd_iconst (v := 0) d_Desk_orderState_90 (by decide) ?_
          refine cd_istore_n (i := 2) d_Desk_orderState_91 rfl (by decide) ?_
          show cd_W X m_Desk_orderState kc ks 92 [some (.ref 64), some (.ref v1), some (.int 0), some (.int v3), some (.int x24)] [] h23 Q
          refine cd_iinc (i := 3) (v := (v3 + 1)) d_Desk_orderState_92 rfl (cd_inc1 _) (by decide) ?_
          show cd_W X m_Desk_orderState kc ks 95 [some (.ref 64), some (.ref v1), some (.int 0), some (.int (v3 + 1)), some (.int x24)] [] h23 Q
          refine cd_goto (tgt := 34) d_Desk_orderState_95 (by decide) ?_
          refine cd_W.drop (i := 4) ?_
          exact H
        · replace H := H.2 t28
          refine cd_iload (i := 4) d_Desk_orderState_80 rfl ?_
          refine cd_iconst (v := 2) d_Desk_orderState_82 (by decide) ?_
          refine cd_icmp_ne (tgt := 90) d_Desk_orderState_83 (by decide) (fun t29 => ?_) (fun t29 => ?_)
          · replace H := H.1 t29
            refine cd_iconst (v := 0) d_Desk_orderState_90 (by decide) ?_
            refine cd_istore_n (i := 2) d_Desk_orderState_91 rfl (by decide) ?_
            show cd_W X m_Desk_orderState kc ks 92 [some (.ref 64), some (.ref v1), some (.int 0), some (.int v3), some (.int x24)] [] h23 Q
            refine cd_iinc (i := 3) (v := (v3 + 1)) d_Desk_orderState_92 rfl (cd_inc1 _) (by decide) ?_
            show cd_W X m_Desk_orderState kc ks 95 [some (.ref 64), some (.ref v1), some (.int 0), some (.int (v3 + 1)), some (.int x24)] [] h23 Q
            refine cd_goto (tgt := 34) d_Desk_orderState_95 (by decide) ?_
            refine cd_W.drop (i := 4) ?_
            exact H
          · replace H := H.2 t29
            refine cd_iconst (v := 1) d_Desk_orderState_86 (by decide) ?_
            refine cd_goto (tgt := 91) d_Desk_orderState_87 (by decide) ?_
            refine cd_istore_n (i := 2) d_Desk_orderState_91 rfl (by decide) ?_
            show cd_W X m_Desk_orderState kc ks 92 [some (.ref 64), some (.ref v1), some (.int 1), some (.int v3), some (.int x24)] [] h23 Q
            refine cd_iinc (i := 3) (v := (v3 + 1)) d_Desk_orderState_92 rfl (cd_inc1 _) (by decide) ?_
            show cd_W X m_Desk_orderState kc ks 95 [some (.ref 64), some (.ref v1), some (.int 1), some (.int (v3 + 1)), some (.int x24)] [] h23 Q
            refine cd_goto (tgt := 34) d_Desk_orderState_95 (by decide) ?_
            refine cd_W.drop (i := 4) ?_
            exact H
      · replace H := H.2 t27
        refine cd_iconst (v := 3) d_Desk_orderState_74 (by decide) ?_
        exact cd_iret d_Desk_orderState_75 rfl rfl H

abbrev m_Desk_crash : cd_M := (⟨"CertificateDesk", "crash", "()V"⟩, prog_1_method_10_code, 2, none, 11, 239)
theorem d_Desk_crash_0 : decode prog_1_method_10_code 0 = .ok (.aload_n 0, 1) := by decide +kernel
theorem d_Desk_crash_1 : decode prog_1_method_10_code 1 = .ok (.getfield 48, 3) := by decide +kernel
theorem kw_1_147 : (Jvm.Cond.fieldLink "CertificateDesk" (48 : Nat) "CertificateDesk" "nonces" "LCertificateDesk$Nonces;") ∈ cd_tbl := tb_1 (List.mem_of_getElem? (i := 147) (by decide +kernel)) (by decide)
theorem fl_Desk_48 {X : cd_E} : cd_FL X "CertificateDesk" 48 0 5 (.object "CertificateDesk$Nonces") := cd_FL.of rfl rfl (by decide) kw_1_147 (Or.inl rfl)
theorem d_Desk_crash_4 : decode prog_1_method_10_code 4 = .ok (.invokevirtual 173, 3) := by decide +kernel
theorem kw_2_147 : (Jvm.Cond.methodLink "CertificateDesk" (173 : Nat) ({ cls := "CertificateDesk$Nonces", name := "forget", desc := "()V" } : Jvm.MethodName)) ∈ cd_tbl := tb_2 (List.mem_of_getElem? (i := 147) (by decide +kernel)) (by decide)
theorem kw_2_150 : (Jvm.Cond.code ({ cls := "CertificateDesk$Nonces", name := "forget", desc := "()V" } : Jvm.MethodName) prog_8_method_4_code (1 : Nat) (Option.none : Option Jvm.ClassFile.FieldType)) ∈ cd_tbl := tb_2 (List.mem_of_getElem? (i := 150) (by decide +kernel)) (by decide)
theorem kw_2_148 : (Jvm.Cond.instanceMethod ({ cls := "CertificateDesk$Nonces", name := "forget", desc := "()V" } : Jvm.MethodName)) ∈ cd_tbl := tb_2 (List.mem_of_getElem? (i := 148) (by decide +kernel)) (by decide)
theorem kw_2_149 : (Jvm.Cond.selects "CertificateDesk$Nonces" ({ cls := "CertificateDesk$Nonces", name := "forget", desc := "()V" } : Jvm.MethodName) ({ cls := "CertificateDesk$Nonces", name := "forget", desc := "()V" } : Jvm.MethodName)) ∈ cd_tbl := tb_2 (List.mem_of_getElem? (i := 149) (by decide +kernel)) (by decide)
theorem ca_Desk_crash_173 {X : cd_E} : cd_CV X m_Desk_crash m_Non_forget 173 0 5 := ⟨⟨by decide, kw_2_150, kw_1_4, ⟨by decide, by decide, by decide +kernel⟩, by decide, by decide⟩, ⟨_, rfl, rfl⟩, kw_2_148, kw_2_149, (Or.inl kw_2_147)⟩
theorem d_Desk_crash_7 : decode prog_1_method_10_code 7 = .ok (.iconst 0, 1) := by decide +kernel
theorem d_Desk_crash_8 : decode prog_1_method_10_code 8 = .ok (.istore_n 1, 1) := by decide +kernel
theorem g_Desk_crash {X : cd_E} {kc ks : Nat} {h : cd_H} {Q : Option Value → cd_H → Prop}  (F : cc_ok h) (H : cd_W X m_Non_forget 0 0 0 [some (.ref 74)] [] h (fun r1 h2 => (r1 = none) ∧ ((cc_ok h2) ∧ (cd_W X m_Desk_crash kc ks 9 [some (.ref 64), some (.int 0)] [] h2 Q)))) : cd_W X m_Desk_crash kc ks 0 [some (.ref 64), none] [] h Q := by
  refine cd_aload_n (i := 0) (v := .ref 64) d_Desk_crash_0 rfl rfl (cd_isr_ref _) ?_
  refine cd_get (v := .ref 74) d_Desk_crash_1 fl_Desk_48 (cc_k64 F) (congrArg va_rf (cc_r64_5 F)) ?_
  refine cd_callV (kc := kc) (ks := ks) (kc' := 0) (ks' := 0) (As := []) (S := []) d_Desk_crash_4 ca_Desk_crash_173 (cc_k74 F) rfl (Nat.le_of_ble_eq_true rfl) (Nat.le_of_ble_eq_true rfl) ?_
  refine cd_W.mono (fun r1 h2 H => ?_) H
  obtain ⟨rfl, H⟩ := H
  obtain ⟨F3, H⟩ := H
  show cd_W X m_Desk_crash kc ks 7 [some (.ref 64), none] [] h2 Q
  refine cd_iconst (v := 0) d_Desk_crash_7 (by decide) ?_
  refine cd_istore_n (i := 1) d_Desk_crash_8 rfl (by decide) ?_
  show cd_W X m_Desk_crash kc ks 9 [some (.ref 64), some (.int 0)] [] h2 Q
  exact H

theorem d_Desk_crash_9 : decode prog_1_method_10_code 9 = .ok (.iload_n 1, 1) := by decide +kernel
theorem d_Desk_crash_10 : decode prog_1_method_10_code 10 = .ok (.aload_n 0, 1) := by decide +kernel
theorem d_Desk_crash_11 : decode prog_1_method_10_code 11 = .ok (.getfield 78, 3) := by decide +kernel
theorem d_Desk_crash_14 : decode prog_1_method_10_code 14 = .ok (.invokevirtual 135, 3) := by decide +kernel
theorem ca_Desk_crash_135 {X : cd_E} : cd_CV X m_Desk_crash m_AL_size 135 0 12 := ⟨⟨by decide, kw_2_11, kw_1_9, ⟨by decide, by decide, by decide +kernel⟩, by decide, by decide⟩, ⟨_, rfl, rfl⟩, kw_2_9, kw_2_10, (Or.inl kw_2_8)⟩
theorem d_Desk_crash_17 : decode prog_1_method_10_code 17 = .ok (.if_icmp .ge 24, 3) := by decide +kernel
theorem d_Desk_crash_41 : decode prog_1_method_10_code 41 = .ok (.return_, 1) := by decide +kernel
theorem d_Desk_crash_20 : decode prog_1_method_10_code 20 = .ok (.aload_n 0, 1) := by decide +kernel
theorem d_Desk_crash_21 : decode prog_1_method_10_code 21 = .ok (.getfield 78, 3) := by decide +kernel
theorem d_Desk_crash_24 : decode prog_1_method_10_code 24 = .ok (.iload_n 1, 1) := by decide +kernel
theorem d_Desk_crash_25 : decode prog_1_method_10_code 25 = .ok (.invokevirtual 138, 3) := by decide +kernel
theorem ca_Desk_crash_138 {X : cd_E} : cd_CV X m_Desk_crash m_AL_get 138 1 12 := ⟨⟨by decide, kw_2_15, kw_1_9, ⟨by decide, by decide, by decide +kernel⟩, by decide, by decide⟩, ⟨_, rfl, rfl⟩, kw_2_13, kw_2_14, (Or.inl kw_2_12)⟩
theorem d_Desk_crash_28 : decode prog_1_method_10_code 28 = .ok (.checkcast 130, 3) := by decide +kernel
theorem d_Desk_crash_31 : decode prog_1_method_10_code 31 = .ok (.iconst (-1), 1) := by decide +kernel
theorem d_Desk_crash_32 : decode prog_1_method_10_code 32 = .ok (.putfield 154, 3) := by decide +kernel
theorem fp_Desk_crash_154 {X : cd_E} : cd_FP X m_Desk_crash 154 2 7 .int := cd_FP.of cl_2 rfl rfl (by decide) kw_3_239 (Or.inl rfl) (Or.inl rfl)
theorem d_Desk_crash_35 : decode prog_1_method_10_code 35 = .ok (.iinc 1 1, 3) := by decide +kernel
theorem d_Desk_crash_38 : decode prog_1_method_10_code 38 = .ok (.goto (-29), 3) := by decide +kernel
theorem g_Desk_crash_9 {X : cd_E} {kc ks : Nat} {h : cd_H} {Q : Option Value → cd_H → Prop} {v1 : Int32} (F : cc_ok h) (H : cd_W X m_AL_size 0 0 0 [some (.ref 80)] [] h (fun r1 h2 => ∃ x3 : Int32, r1 = some (.int x3) ∧ ((cc_ok h2) ∧ ((((x3 ≤ v1) → (Q none h2)) ∧ ((¬ x3 ≤ v1) → (cd_W X m_AL_get 0 0 0 [some (.ref 80), some (.int v1)] [] h2 (fun r6 h7 => ∃ o8 : Option Nat, r6 = some (va_rf o8) ∧ ((cc_ok h7) ∧ ((∃ b10 : Nat, o8 = some b10 ∧ ((cd_k h7 b10 = some (.inl 2)) ∧ ((64 ≤ b10) ∧ (cd_W X m_Desk_crash kc ks 9 [some (.ref 64), some (.int (v1 + 1))] [] (cd_si h7 b10 7 (-1)) Q)))))))))))))) : cd_W X m_Desk_crash kc ks 9 [some (.ref 64), some (.int v1)] [] h Q := by
  refine cd_iload_n (i := 1) d_Desk_crash_9 rfl rfl ?_
  refine cd_aload_n (i := 0) (v := .ref 64) d_Desk_crash_10 rfl rfl (cd_isr_ref _) ?_
  refine cd_get (v := .ref 80) d_Desk_crash_11 fl_Desk_78 (cc_k64 F) (congrArg va_rf (cc_r64_10 F)) ?_
  refine cd_callV (kc := kc) (ks := ks) (kc' := 0) (ks' := 0) (As := []) (S := [.int v1]) d_Desk_crash_14 ca_Desk_crash_135 (cc_k80 F) rfl (Nat.le_of_ble_eq_true rfl) (Nat.le_of_ble_eq_true rfl) ?_
  refine cd_W.mono (fun r1 h2 H => ?_) H
  obtain ⟨x3, rfl, H⟩ := H
  obtain ⟨F4, H⟩ := H
  show cd_W X m_Desk_crash kc ks 17 [some (.ref 64), some (.int v1)] [.int x3, .int v1] h2 Q
  refine cd_icmp_ge (tgt := 41) d_Desk_crash_17 (by decide) (fun t5 => ?_) (fun t5 => ?_)
  · replace H := H.1 t5
    exact cd_vret d_Desk_crash_41 rfl H
  · replace H := H.2 t5
    refine cd_aload_n (i := 0) (v := .ref 64) d_Desk_crash_20 rfl rfl (cd_isr_ref _) ?_
    refine cd_get (v := .ref 80) d_Desk_crash_21 fl_Desk_78 (cc_k64 F4) (congrArg va_rf (cc_r64_10 F4)) ?_
    refine cd_iload_n (i := 1) d_Desk_crash_24 rfl rfl ?_
    refine cd_callV (kc := kc) (ks := ks) (kc' := 0) (ks' := 0) (As := [.int v1]) (S := []) d_Desk_crash_25 ca_Desk_crash_138 (cc_k80 F4) rfl (Nat.le_of_ble_eq_true rfl) (Nat.le_of_ble_eq_true rfl) ?_
    refine cd_W.mono (fun r6 h7 H => ?_) H
    obtain ⟨o8, rfl, H⟩ := H
    obtain ⟨F9, H⟩ := H
    show cd_W X m_Desk_crash kc ks 28 [some (.ref 64), some (.int v1)] [va_rf o8] h7 Q
    obtain ⟨b10, e11, H⟩ := H
    rw [cd_rfs e11]
    obtain ⟨c12, H⟩ := H
    refine cd_cast d_Desk_crash_28 rfl ⟨kw_2_151, kw_3_208⟩ c12 ?_
    refine cd_iconst (v := (-1)) d_Desk_crash_31 (by decide) ?_
    obtain ⟨c13, H⟩ := H
    refine cd_putI d_Desk_crash_32 fp_Desk_crash_154 (fun _ _ _ => rfl) c12 c13 rfl rfl ?_
    refine cd_iinc (i := 1) (v := (v1 + 1)) d_Desk_crash_35 rfl (cd_inc1 _) (by decide) ?_
    show cd_W X m_Desk_crash kc ks 38 [some (.ref 64), some (.int (v1 + 1))] [] (cd_si h7 b10 7 (-1)) Q
    refine cd_goto (tgt := 9) d_Desk_crash_38 (by decide) ?_
    exact H

abbrev m_Desk_keep : cd_M := (⟨"CertificateDesk", "keep", "(I)LCertificateDesk$Fate;"⟩, prog_1_method_31_code, 3, some (.object "CertificateDesk$Fate"), 12, 260)
theorem d_Desk_keep_0 : decode prog_1_method_31_code 0 = .ok (.aload_n 0, 1) := by decide +kernel
theorem d_Desk_keep_1 : decode prog_1_method_31_code 1 = .ok (.getfield 55, 3) := by decide +kernel
theorem kw_1_148 : (Jvm.Cond.fieldLink "CertificateDesk" (55 : Nat) "CertificateDesk" "store" "LCertificateDesk$Store;") ∈ cd_tbl := tb_1 (List.mem_of_getElem? (i := 148) (by decide +kernel)) (by decide)
theorem fl_Desk_55 {X : cd_E} : cd_FL X "CertificateDesk" 55 0 6 (.object "CertificateDesk$Store") := cd_FL.of rfl rfl (by decide) kw_1_148 (Or.inl rfl)
theorem d_Desk_keep_4 : decode prog_1_method_31_code 4 = .ok (.iload_n 1, 1) := by decide +kernel
theorem d_Desk_keep_5 : decode prog_1_method_31_code 5 = .ok (.invokevirtual 257, 3) := by decide +kernel
theorem kw_2_131 : (Jvm.Cond.methodLink "CertificateDesk" (257 : Nat) ({ cls := "CertificateDesk$Store", name := "put", desc := "(I)LCertificateDesk$Fate;" } : Jvm.MethodName)) ∈ cd_tbl := tb_2 (List.mem_of_getElem? (i := 131) (by decide +kernel)) (by decide)
theorem kw_2_134 : (Jvm.Cond.code ({ cls := "CertificateDesk$Store", name := "put", desc := "(I)LCertificateDesk$Fate;" } : Jvm.MethodName) prog_12_method_2_code (4 : Nat) (Option.some (Jvm.ClassFile.FieldType.object "CertificateDesk$Fate"))) ∈ cd_tbl := tb_2 (List.mem_of_getElem? (i := 134) (by decide +kernel)) (by decide)
theorem kw_2_132 : (Jvm.Cond.instanceMethod ({ cls := "CertificateDesk$Store", name := "put", desc := "(I)LCertificateDesk$Fate;" } : Jvm.MethodName)) ∈ cd_tbl := tb_2 (List.mem_of_getElem? (i := 132) (by decide +kernel)) (by decide)
theorem kw_2_133 : (Jvm.Cond.selects "CertificateDesk$Store" ({ cls := "CertificateDesk$Store", name := "put", desc := "(I)LCertificateDesk$Fate;" } : Jvm.MethodName) ({ cls := "CertificateDesk$Store", name := "put", desc := "(I)LCertificateDesk$Fate;" } : Jvm.MethodName)) ∈ cd_tbl := tb_2 (List.mem_of_getElem? (i := 133) (by decide +kernel)) (by decide)
theorem ca_Desk_keep_257 {X : cd_E} : cd_CV X m_Desk_keep m_Sto_put 257 1 9 := ⟨⟨by decide, kw_2_134, kw_1_5, ⟨by decide, by decide, by decide +kernel⟩, by decide, by decide⟩, ⟨_, rfl, rfl⟩, kw_2_132, kw_2_133, (Or.inl kw_2_131)⟩
theorem d_Desk_keep_8 : decode prog_1_method_31_code 8 = .ok (.astore_n 2, 1) := by decide +kernel
theorem d_Desk_keep_9 : decode prog_1_method_31_code 9 = .ok (.aload_n 2, 1) := by decide +kernel
theorem d_Desk_keep_10 : decode prog_1_method_31_code 10 = .ok (.getfield 167, 3) := by decide +kernel
theorem kw_6_207 : (Jvm.Cond.fieldLink "CertificateDesk" (167 : Nat) "CertificateDesk$Fate" "crash" "Z") ∈ cd_tbl := tb_6 (List.mem_of_getElem? (i := 207) (by decide +kernel)) (by decide)
theorem fl_Desk_167 {X : cd_E} : cd_FL X "CertificateDesk" 167 10 1 .boolean := cd_FL.of rfl rfl (by decide) kw_6_207 (Or.inl rfl)
theorem d_Desk_keep_13 : decode prog_1_method_31_code 13 = .ok (.ifCond .eq 7, 3) := by decide +kernel
theorem d_Desk_keep_20 : decode prog_1_method_31_code 20 = .ok (.aload_n 2, 1) := by decide +kernel
theorem d_Desk_keep_21 : decode prog_1_method_31_code 21 = .ok (.areturn, 1) := by decide +kernel
theorem d_Desk_keep_16 : decode prog_1_method_31_code 16 = .ok (.aload_n 0, 1) := by decide +kernel
theorem d_Desk_keep_17 : decode prog_1_method_31_code 17 = .ok (.invokevirtual 260, 3) := by decide +kernel
theorem kw_2_143 : (Jvm.Cond.methodLink "CertificateDesk" (260 : Nat) ({ cls := "CertificateDesk", name := "crash", desc := "()V" } : Jvm.MethodName)) ∈ cd_tbl := tb_2 (List.mem_of_getElem? (i := 143) (by decide +kernel)) (by decide)
theorem kw_2_146 : (Jvm.Cond.code ({ cls := "CertificateDesk", name := "crash", desc := "()V" } : Jvm.MethodName) prog_1_method_10_code (2 : Nat) (Option.none : Option Jvm.ClassFile.FieldType)) ∈ cd_tbl := tb_2 (List.mem_of_getElem? (i := 146) (by decide +kernel)) (by decide)
theorem kw_2_144 : (Jvm.Cond.instanceMethod ({ cls := "CertificateDesk", name := "crash", desc := "()V" } : Jvm.MethodName)) ∈ cd_tbl := tb_2 (List.mem_of_getElem? (i := 144) (by decide +kernel)) (by decide)
theorem kw_2_145 : (Jvm.Cond.selects "CertificateDesk" ({ cls := "CertificateDesk", name := "crash", desc := "()V" } : Jvm.MethodName) ({ cls := "CertificateDesk", name := "crash", desc := "()V" } : Jvm.MethodName)) ∈ cd_tbl := tb_2 (List.mem_of_getElem? (i := 145) (by decide +kernel)) (by decide)
theorem ca_Desk_keep_260 {X : cd_E} : cd_CV X m_Desk_keep m_Desk_crash 260 0 0 := ⟨⟨by decide, kw_2_146, kw_1_1, ⟨by decide, by decide, by decide +kernel⟩, by decide, by decide⟩, ⟨_, rfl, rfl⟩, kw_2_144, kw_2_145, (Or.inl kw_2_143)⟩
theorem g_Desk_keep {X : cd_E} {kc ks : Nat} {h : cd_H} {Q : Option Value → cd_H → Prop} {p1 : Int32} (F : cc_ok h) (H : cd_W X m_Sto_put 0 0 0 [some (.ref 76), some (.int p1), none, none] [] h (fun r1 h2 => ∃ b3 : Nat, r1 = some (.ref b3) ∧ ((cc_ok h2) ∧ ((cd_k h2 b3 = some (.inl 10)) ∧ (((((cd_i h2 b3 1) = 0) → (Q (some (.ref b3)) h2)) ∧ ((¬ (cd_i h2 b3 1) = 0) → (cd_W X m_Desk_crash 0 0 0 [some (.ref 64), none] [] h2 (fun r7 h8 => (r7 = none) ∧ ((cc_ok h8) ∧ (Q (some (.ref b3)) h8))))))))))) : cd_W X m_Desk_keep kc ks 0 [some (.ref 64), some (.int p1), none] [] h Q := by
  refine cd_aload_n (i := 0) (v := .ref 64) d_Desk_keep_0 rfl rfl (cd_isr_ref _) ?_
  refine cd_get (v := .ref 76) d_Desk_keep_1 fl_Desk_55 (cc_k64 F) (congrArg va_rf (cc_r64_6 F)) ?_
  refine cd_iload_n (i := 1) d_Desk_keep_4 rfl rfl ?_
  refine cd_callV (kc := kc) (ks := ks) (kc' := 0) (ks' := 0) (As := [.int p1]) (S := []) d_Desk_keep_5 ca_Desk_keep_257 (cc_k76 F) rfl (Nat.le_of_ble_eq_true rfl) (Nat.le_of_ble_eq_true rfl) ?_
  refine cd_W.mono (fun r1 h2 H => ?_) H
  obtain ⟨b3, rfl, H⟩ := H
  obtain ⟨F4, H⟩ := H
  show cd_W X m_Desk_keep kc ks 8 [some (.ref 64), some (.int p1), none] [.ref b3] h2 Q
  refine cd_astore_n (i := 2) d_Desk_keep_8 rfl (by decide) (cd_isr_ref _) ?_
  show cd_W X m_Desk_keep kc ks 9 [some (.ref 64), some (.int p1), some (.ref b3)] [] h2 Q
  refine cd_aload_n (i := 2) (v := .ref b3) d_Desk_keep_9 rfl rfl (cd_isr_ref _) ?_
  obtain ⟨c5, H⟩ := H
  refine cd_get (v := .int (cd_i h2 b3 1)) d_Desk_keep_10 fl_Desk_167 c5 rfl ?_
  refine cd_if_eq (tgt := 20) d_Desk_keep_13 (by decide) (fun t6 => ?_) (fun t6 => ?_)
  · replace H := H.1 t6
    refine cd_aload_n (i := 2) (v := .ref b3) d_Desk_keep_20 rfl rfl (cd_isr_ref _) ?_
    exact cd_aret d_Desk_keep_21 rfl (Or.inl ⟨_, rfl⟩) (cd_isr_ref _) H
  · replace H := H.2 t6
    refine cd_aload_n (i := 0) (v := .ref 64) d_Desk_keep_16 rfl rfl (cd_isr_ref _) ?_
    refine cd_callV (kc := kc) (ks := ks) (kc' := 0) (ks' := 0) (As := []) (S := []) d_Desk_keep_17 ca_Desk_keep_260 (cc_k64 F4) rfl (Nat.le_of_ble_eq_true rfl) (Nat.le_of_ble_eq_true rfl) ?_
    refine cd_W.mono (fun r7 h8 H => ?_) H
    obtain ⟨rfl, H⟩ := H
    obtain ⟨F9, H⟩ := H
    show cd_W X m_Desk_keep kc ks 20 [some (.ref 64), some (.int p1), some (.ref b3)] [] h8 Q
    refine cd_aload_n (i := 2) (v := .ref b3) d_Desk_keep_20 rfl rfl (cd_isr_ref _) ?_
    exact cd_aret d_Desk_keep_21 rfl (Or.inl ⟨_, rfl⟩) (cd_isr_ref _) H

abbrev m_Desk_requestDigest : cd_M := (⟨"CertificateDesk", "requestDigest", "(II)I"⟩, prog_1_method_33_code, 4, some .int, 3, 68)
theorem d_Desk_requestDigest_0 : decode prog_1_method_33_code 0 = .ok (.aload_n 0, 1) := by decide +kernel
theorem d_Desk_requestDigest_1 : decode prog_1_method_33_code 1 = .ok (.getfield 37, 3) := by decide +kernel
theorem kw_1_145 : (Jvm.Cond.fieldLink "CertificateDesk" (37 : Nat) "CertificateDesk" "text" "LCertificateDesk$Notation;") ∈ cd_tbl := tb_1 (List.mem_of_getElem? (i := 145) (by decide +kernel)) (by decide)
theorem fl_Desk_37 {X : cd_E} : cd_FL X "CertificateDesk" 37 0 3 (.object "CertificateDesk$Notation") := cd_FL.of rfl rfl (by decide) kw_1_145 (Or.inl rfl)
theorem d_Desk_requestDigest_4 : decode prog_1_method_33_code 4 = .ok (.invokevirtual 276, 3) := by decide +kernel
theorem kw_1_217 : (Jvm.Cond.methodLink "CertificateDesk" (276 : Nat) ({ cls := "CertificateDesk$Notation", name := "digest", desc := "()I" } : Jvm.MethodName)) ∈ cd_tbl := tb_1 (List.mem_of_getElem? (i := 217) (by decide +kernel)) (by decide)
theorem kw_1_220 : (Jvm.Cond.code ({ cls := "CertificateDesk$Notation", name := "digest", desc := "()I" } : Jvm.MethodName) prog_9_method_4_code (3 : Nat) (Option.some Jvm.ClassFile.FieldType.int)) ∈ cd_tbl := tb_1 (List.mem_of_getElem? (i := 220) (by decide +kernel)) (by decide)
theorem kw_1_218 : (Jvm.Cond.instanceMethod ({ cls := "CertificateDesk$Notation", name := "digest", desc := "()I" } : Jvm.MethodName)) ∈ cd_tbl := tb_1 (List.mem_of_getElem? (i := 218) (by decide +kernel)) (by decide)
theorem kw_1_219 : (Jvm.Cond.selects "CertificateDesk$Notation" ({ cls := "CertificateDesk$Notation", name := "digest", desc := "()I" } : Jvm.MethodName) ({ cls := "CertificateDesk$Notation", name := "digest", desc := "()I" } : Jvm.MethodName)) ∈ cd_tbl := tb_1 (List.mem_of_getElem? (i := 219) (by decide +kernel)) (by decide)
theorem ca_Desk_requestDigest_276 {X : cd_E} : cd_CV X m_Desk_requestDigest m_Not_digest 276 0 6 := ⟨⟨by decide, kw_1_220, kw_1_3, ⟨by decide, by decide, by decide +kernel⟩, by decide, by decide⟩, ⟨_, rfl, rfl⟩, kw_1_218, kw_1_219, (Or.inl kw_1_217)⟩
theorem d_Desk_requestDigest_7 : decode prog_1_method_33_code 7 = .ok (.bipush 124, 2) := by decide +kernel
theorem d_Desk_requestDigest_9 : decode prog_1_method_33_code 9 = .ok (.invokestatic 236, 3) := by decide +kernel
theorem kw_1_226 : (Jvm.Cond.methodLink "CertificateDesk" (236 : Nat) ({ cls := "CertificateDesk$Digest", name := "with", desc := "(II)I" } : Jvm.MethodName)) ∈ cd_tbl := tb_1 (List.mem_of_getElem? (i := 226) (by decide +kernel)) (by decide)
theorem ca_Desk_requestDigest_236 {X : cd_E} : cd_CS X m_Desk_requestDigest m_Dig_with 236 2 := ⟨⟨by decide, kw_1_223, kw_1_11, ⟨by decide, by decide, by decide +kernel⟩, by decide, by decide⟩, kw_1_222, (Or.inl kw_1_226)⟩
theorem d_Desk_requestDigest_12 : decode prog_1_method_33_code 12 = .ok (.iload_n 1, 1) := by decide +kernel
theorem d_Desk_requestDigest_13 : decode prog_1_method_33_code 13 = .ok (.invokestatic 279, 3) := by decide +kernel
theorem kw_1_227 : (Jvm.Cond.methodLink "CertificateDesk" (279 : Nat) ({ cls := "CertificateDesk$Digest", name := "withNumber", desc := "(II)I" } : Jvm.MethodName)) ∈ cd_tbl := tb_1 (List.mem_of_getElem? (i := 227) (by decide +kernel)) (by decide)
theorem ca_Desk_requestDigest_279 {X : cd_E} : cd_CS X m_Desk_requestDigest m_Dig_withNumber 279 2 := ⟨⟨by decide, kw_1_229, kw_1_11, ⟨by decide, by decide, by decide +kernel⟩, by decide, by decide⟩, kw_1_228, (Or.inl kw_1_227)⟩
theorem d_Desk_requestDigest_16 : decode prog_1_method_33_code 16 = .ok (.istore_n 3, 1) := by decide +kernel
theorem d_Desk_requestDigest_17 : decode prog_1_method_33_code 17 = .ok (.iload_n 3, 1) := by decide +kernel
theorem d_Desk_requestDigest_18 : decode prog_1_method_33_code 18 = .ok (.bipush 124, 2) := by decide +kernel
theorem d_Desk_requestDigest_20 : decode prog_1_method_33_code 20 = .ok (.invokestatic 236, 3) := by decide +kernel
theorem d_Desk_requestDigest_23 : decode prog_1_method_33_code 23 = .ok (.iload_n 2, 1) := by decide +kernel
theorem d_Desk_requestDigest_24 : decode prog_1_method_33_code 24 = .ok (.invokestatic 279, 3) := by decide +kernel
theorem d_Desk_requestDigest_27 : decode prog_1_method_33_code 27 = .ok (.ireturn, 1) := by decide +kernel
theorem g_Desk_requestDigest {X : cd_E} {kc ks : Nat} {h : cd_H} {Q : Option Value → cd_H → Prop} {p1 : Int32} {p2 : Int32} (F : cc_ok h) (H : cd_W X m_Not_digest 0 0 0 [some (.ref 71), none, none] [] h (fun r1 h2 => ∃ x3 : Int32, r1 = some (.int x3) ∧ ((cc_ok h2) ∧ (cd_W X m_Dig_with 0 0 0 [some (.int x3), some (.int 124)] [] h2 (fun r5 h6 => ∃ x7 : Int32, r5 = some (.int x7) ∧ ((cc_ok h6) ∧ (cd_W X m_Dig_withNumber 0 0 0 [some (.int x7), some (.int p1), none, none, none, none, none, none] [] h6 (fun r9 h10 => ∃ x11 : Int32, r9 = some (.int x11) ∧ ((cc_ok h10) ∧ (cd_W X m_Dig_with 0 0 0 [some (.int x11), some (.int 124)] [] h10 (fun r13 h14 => ∃ x15 : Int32, r13 = some (.int x15) ∧ ((cc_ok h14) ∧ (cd_W X m_Dig_withNumber 0 0 0 [some (.int x15), some (.int p2), none, none, none, none, none, none] [] h14 (fun r17 h18 => ∃ x19 : Int32, r17 = some (.int x19) ∧ ((cc_ok h18) ∧ (Q (some (.int x19)) h18)))))))))))))))) : cd_W X m_Desk_requestDigest kc ks 0 [some (.ref 64), some (.int p1), some (.int p2), none] [] h Q := by
  refine cd_aload_n (i := 0) (v := .ref 64) d_Desk_requestDigest_0 rfl rfl (cd_isr_ref _) ?_
  refine cd_get (v := .ref 71) d_Desk_requestDigest_1 fl_Desk_37 (cc_k64 F) (congrArg va_rf (cc_r64_3 F)) ?_
  refine cd_callV (kc := kc) (ks := ks) (kc' := 0) (ks' := 0) (As := []) (S := []) d_Desk_requestDigest_4 ca_Desk_requestDigest_276 (cc_k71 F) rfl (Nat.le_of_ble_eq_true rfl) (Nat.le_of_ble_eq_true rfl) ?_
  refine cd_W.mono (fun r1 h2 H => ?_) H
  obtain ⟨x3, rfl, H⟩ := H
  obtain ⟨F4, H⟩ := H
  show cd_W X m_Desk_requestDigest kc ks 7 [some (.ref 64), some (.int p1), some (.int p2), none] [.int x3] h2 Q
  refine cd_bipush (v := 124) d_Desk_requestDigest_7 (by decide) ?_
  refine cd_callS (kc := kc) (ks := ks) (kc' := 0) (ks' := 0) (As := [.int x3, .int 124]) (S := []) d_Desk_requestDigest_9 ca_Desk_requestDigest_236 rfl (Nat.le_of_ble_eq_true rfl) (Nat.le_of_ble_eq_true rfl) ?_
  refine cd_W.mono (fun r5 h6 H => ?_) H
  obtain ⟨x7, rfl, H⟩ := H
  obtain ⟨F8, H⟩ := H
  show cd_W X m_Desk_requestDigest kc ks 12 [some (.ref 64), some (.int p1), some (.int p2), none] [.int x7] h6 Q
  refine cd_iload_n (i := 1) d_Desk_requestDigest_12 rfl rfl ?_
  refine cd_callS (kc := kc) (ks := ks) (kc' := 0) (ks' := 0) (As := [.int x7, .int p1]) (S := []) d_Desk_requestDigest_13 ca_Desk_requestDigest_279 rfl (Nat.le_of_ble_eq_true rfl) (Nat.le_of_ble_eq_true rfl) ?_
  refine cd_W.mono (fun r9 h10 H => ?_) H
  obtain ⟨x11, rfl, H⟩ := H
  obtain ⟨F12, H⟩ := H
  show cd_W X m_Desk_requestDigest kc ks 16 [some (.ref 64), some (.int p1), some (.int p2), none] [.int x11] h10 Q
  refine cd_istore_n (i := 3) d_Desk_requestDigest_16 rfl (by decide) ?_
  show cd_W X m_Desk_requestDigest kc ks 17 [some (.ref 64), some (.int p1), some (.int p2), some (.int x11)] [] h10 Q
  refine cd_iload_n (i := 3) d_Desk_requestDigest_17 rfl rfl ?_
  refine cd_bipush (v := 124) d_Desk_requestDigest_18 (by decide) ?_
  refine cd_callS (kc := kc) (ks := ks) (kc' := 0) (ks' := 0) (As := [.int x11, .int 124]) (S := []) d_Desk_requestDigest_20 ca_Desk_requestDigest_236 rfl (Nat.le_of_ble_eq_true rfl) (Nat.le_of_ble_eq_true rfl) ?_
  refine cd_W.mono (fun r13 h14 H => ?_) H
  obtain ⟨x15, rfl, H⟩ := H
  obtain ⟨F16, H⟩ := H
  show cd_W X m_Desk_requestDigest kc ks 23 [some (.ref 64), some (.int p1), some (.int p2), some (.int x11)] [.int x15] h14 Q
  refine cd_iload_n (i := 2) d_Desk_requestDigest_23 rfl rfl ?_
  refine cd_callS (kc := kc) (ks := ks) (kc' := 0) (ks' := 0) (As := [.int x15, .int p2]) (S := []) d_Desk_requestDigest_24 ca_Desk_requestDigest_279 rfl (Nat.le_of_ble_eq_true rfl) (Nat.le_of_ble_eq_true rfl) ?_
  refine cd_W.mono (fun r17 h18 H => ?_) H
  obtain ⟨x19, rfl, H⟩ := H
  obtain ⟨F20, H⟩ := H
  show cd_W X m_Desk_requestDigest kc ks 27 [some (.ref 64), some (.int p1), some (.int p2), some (.int x11)] [.int x19] h18 Q
  exact cd_iret d_Desk_requestDigest_27 rfl rfl H

abbrev m_Desk_openKey : cd_M := (⟨"CertificateDesk", "openKey", "(LCertificateDesk$Account;)LCertificateDesk$Key;"⟩, prog_1_method_34_code, 1, some (.object "CertificateDesk$Key"), 1, 20)
theorem d_Desk_openKey_0 : decode prog_1_method_34_code 0 = .ok (.aload_n 0, 1) := by decide +kernel
theorem d_Desk_openKey_1 : decode prog_1_method_34_code 1 = .ok (.ifnull 10, 3) := by decide +kernel
theorem d_Desk_openKey_11 : decode prog_1_method_34_code 11 = .ok (.aconst_null, 1) := by decide +kernel
theorem d_Desk_openKey_12 : decode prog_1_method_34_code 12 = .ok (.goto 7, 3) := by decide +kernel
theorem d_Desk_openKey_19 : decode prog_1_method_34_code 19 = .ok (.areturn, 1) := by decide +kernel
theorem d_Desk_openKey_4 : decode prog_1_method_34_code 4 = .ok (.aload_n 0, 1) := by decide +kernel
theorem d_Desk_openKey_5 : decode prog_1_method_34_code 5 = .ok (.getfield 179, 3) := by decide +kernel
theorem d_Desk_openKey_8 : decode prog_1_method_34_code 8 = .ok (.ifCond .eq 7, 3) := by decide +kernel
theorem d_Desk_openKey_15 : decode prog_1_method_34_code 15 = .ok (.aload_n 0, 1) := by decide +kernel
theorem d_Desk_openKey_16 : decode prog_1_method_34_code 16 = .ok (.getfield 184, 3) := by decide +kernel
theorem g_Desk_openKey {X : cd_E} {kc ks : Nat} {h : cd_H} {Q : Option Value → cd_H → Prop} {p1 : Option Nat} (F : cc_ok h) (H : (((p1 = none) → (Q (some (.null)) h)) ∧ (∀ b2 : Nat, p1 = some b2 → ((cd_k h b2 = some (.inl 1)) ∧ (((((cd_i h b2 1) = 0) → (Q (some (va_rf (cd_r h b2 0))) h)) ∧ ((¬ (cd_i h b2 1) = 0) → (Q (some (.null)) h)))))))) : cd_W X m_Desk_openKey kc ks 0 [some (va_rf p1)] [] h Q := by
  refine cd_aload_n (i := 0) (v := va_rf p1) d_Desk_openKey_0 rfl rfl (cd_isr_rf _) ?_
  refine cd_ifnull (r := p1) (tgt := 11) d_Desk_openKey_1 (by decide) (fun t1 => ?_) (fun b2 t1 => ?_)
  · replace H := H.1 t1
    rw [cd_rfn t1]
    refine cd_null d_Desk_openKey_11 ?_
    refine cd_goto (tgt := 19) d_Desk_openKey_12 (by decide) ?_
    exact cd_aret d_Desk_openKey_19 rfl (Or.inl ⟨_, rfl⟩) cd_isr_null H
  · replace H := H.2 b2 t1
    rw [cd_rfs t1]
    refine cd_aload_n (i := 0) (v := .ref b2) d_Desk_openKey_4 rfl rfl (cd_isr_ref _) ?_
    obtain ⟨c3, H⟩ := H
    refine cd_get (v := .int (cd_i h b2 1)) d_Desk_openKey_5 fl_Desk_179 c3 rfl ?_
    refine cd_if_eq (tgt := 15) d_Desk_openKey_8 (by decide) (fun t4 => ?_) (fun t4 => ?_)
    · replace H := H.1 t4
      refine cd_aload_n (i := 0) (v := .ref b2) d_Desk_openKey_15 rfl rfl (cd_isr_ref _) ?_
      refine cd_get (v := va_rf (cd_r h b2 0)) d_Desk_openKey_16 fl_Desk_184 c3 rfl ?_
      exact cd_aret d_Desk_openKey_19 rfl (Or.inl ⟨_, rfl⟩) (cd_isr_rf _) H
    · replace H := H.2 t4
      refine cd_null d_Desk_openKey_11 ?_
      refine cd_goto (tgt := 19) d_Desk_openKey_12 (by decide) ?_
      exact cd_aret d_Desk_openKey_19 rfl (Or.inl ⟨_, rfl⟩) cd_isr_null H

abbrev m_Desk_admit : cd_M := (⟨"CertificateDesk", "admit", "(LCertificateDesk$Key;III)I"⟩, prog_1_method_32_code, 7, some .int, 12, 260)
theorem d_Desk_admit_0 : decode prog_1_method_32_code 0 = .ok (.aload_n 0, 1) := by decide +kernel
theorem d_Desk_admit_1 : decode prog_1_method_32_code 1 = .ok (.iload_n 2, 1) := by decide +kernel
theorem d_Desk_admit_2 : decode prog_1_method_32_code 2 = .ok (.iload_n 3, 1) := by decide +kernel
theorem d_Desk_admit_3 : decode prog_1_method_32_code 3 = .ok (.invokevirtual 262, 3) := by decide +kernel
theorem kw_1_213 : (Jvm.Cond.methodLink "CertificateDesk" (262 : Nat) ({ cls := "CertificateDesk", name := "requestDigest", desc := "(II)I" } : Jvm.MethodName)) ∈ cd_tbl := tb_1 (List.mem_of_getElem? (i := 213) (by decide +kernel)) (by decide)
theorem kw_1_216 : (Jvm.Cond.code ({ cls := "CertificateDesk", name := "requestDigest", desc := "(II)I" } : Jvm.MethodName) prog_1_method_33_code (4 : Nat) (Option.some Jvm.ClassFile.FieldType.int)) ∈ cd_tbl := tb_1 (List.mem_of_getElem? (i := 216) (by decide +kernel)) (by decide)
theorem kw_1_215 : (Jvm.Cond.instanceMethod ({ cls := "CertificateDesk", name := "requestDigest", desc := "(II)I" } : Jvm.MethodName)) ∈ cd_tbl := tb_1 (List.mem_of_getElem? (i := 215) (by decide +kernel)) (by decide)
theorem kp_2 : Cond.selects "CertificateDesk" ⟨"CertificateDesk", "requestDigest", "(II)I"⟩ ⟨"CertificateDesk", "requestDigest", "(II)I"⟩ ∈ cd_tbl := cd_sel (List.mem_of_getElem? (i := 2) (by decide +kernel)) (by decide)
theorem ca_Desk_admit_262 {X : cd_E} : cd_CV X m_Desk_admit m_Desk_requestDigest 262 2 0 := ⟨⟨by decide, kw_1_216, kw_1_1, ⟨by decide, by decide, by decide +kernel⟩, by decide, by decide⟩, ⟨_, rfl, rfl⟩, kw_1_215, kp_2, (Or.inl kw_1_213)⟩
theorem d_Desk_admit_6 : decode prog_1_method_32_code 6 = .ok (.istore 5, 2) := by decide +kernel
theorem d_Desk_admit_8 : decode prog_1_method_32_code 8 = .ok (.aload_n 0, 1) := by decide +kernel
theorem d_Desk_admit_9 : decode prog_1_method_32_code 9 = .ok (.aload_n 1, 1) := by decide +kernel
theorem d_Desk_admit_10 : decode prog_1_method_32_code 10 = .ok (.iload 5, 2) := by decide +kernel
theorem d_Desk_admit_12 : decode prog_1_method_32_code 12 = .ok (.invokevirtual 240, 3) := by decide +kernel
theorem kw_1_232 : (Jvm.Cond.methodLink "CertificateDesk" (240 : Nat) ({ cls := "CertificateDesk$Key", name := "sign", desc := "(I)I" } : Jvm.MethodName)) ∈ cd_tbl := tb_1 (List.mem_of_getElem? (i := 232) (by decide +kernel)) (by decide)
theorem kw_1_235 : (Jvm.Cond.code ({ cls := "CertificateDesk$Key", name := "sign", desc := "(I)I" } : Jvm.MethodName) prog_7_method_3_code (2 : Nat) (Option.some Jvm.ClassFile.FieldType.int)) ∈ cd_tbl := tb_1 (List.mem_of_getElem? (i := 235) (by decide +kernel)) (by decide)
theorem kw_1_233 : (Jvm.Cond.instanceMethod ({ cls := "CertificateDesk$Key", name := "sign", desc := "(I)I" } : Jvm.MethodName)) ∈ cd_tbl := tb_1 (List.mem_of_getElem? (i := 233) (by decide +kernel)) (by decide)
theorem kw_1_234 : (Jvm.Cond.selects "CertificateDesk$Key" ({ cls := "CertificateDesk$Key", name := "sign", desc := "(I)I" } : Jvm.MethodName) ({ cls := "CertificateDesk$Key", name := "sign", desc := "(I)I" } : Jvm.MethodName)) ∈ cd_tbl := tb_1 (List.mem_of_getElem? (i := 234) (by decide +kernel)) (by decide)
theorem ca_Desk_admit_240 {X : cd_E} : cd_CV X m_Desk_admit m_Key_sign 240 1 4 := ⟨⟨by decide, kw_1_235, kw_1_2, ⟨by decide, by decide, by decide +kernel⟩, by decide, by decide⟩, ⟨_, rfl, rfl⟩, kw_1_233, kw_1_234, (Or.inl kw_1_232)⟩
theorem d_Desk_admit_15 : decode prog_1_method_32_code 15 = .ok (.putfield 87, 3) := by decide +kernel
theorem kw_1_155 : (Jvm.Cond.fieldLink "CertificateDesk" (87 : Nat) "CertificateDesk" "latestSignature" "I") ∈ cd_tbl := tb_1 (List.mem_of_getElem? (i := 155) (by decide +kernel)) (by decide)
theorem kw_1_156 : (Jvm.Cond.laysFinal "CertificateDesk" "CertificateDesk" "life" "I") ∈ cd_tbl := tb_1 (List.mem_of_getElem? (i := 156) (by decide +kernel)) (by decide)
theorem kw_1_158 : (Jvm.Cond.laysFinal "CertificateDesk" "CertificateDesk" "clientKeys" "[LCertificateDesk$Key;") ∈ cd_tbl := tb_1 (List.mem_of_getElem? (i := 158) (by decide +kernel)) (by decide)
theorem kw_1_160 : (Jvm.Cond.laysFinal "CertificateDesk" "CertificateDesk" "deskKey" "LCertificateDesk$Key;") ∈ cd_tbl := tb_1 (List.mem_of_getElem? (i := 160) (by decide +kernel)) (by decide)
theorem kw_1_162 : (Jvm.Cond.laysFinal "CertificateDesk" "CertificateDesk" "text" "LCertificateDesk$Notation;") ∈ cd_tbl := tb_1 (List.mem_of_getElem? (i := 162) (by decide +kernel)) (by decide)
theorem kw_1_164 : (Jvm.Cond.laysFinal "CertificateDesk" "CertificateDesk" "starts" "[I") ∈ cd_tbl := tb_1 (List.mem_of_getElem? (i := 164) (by decide +kernel)) (by decide)
theorem kw_1_166 : (Jvm.Cond.laysFinal "CertificateDesk" "CertificateDesk" "nonces" "LCertificateDesk$Nonces;") ∈ cd_tbl := tb_1 (List.mem_of_getElem? (i := 166) (by decide +kernel)) (by decide)
theorem kw_1_168 : (Jvm.Cond.laysFinal "CertificateDesk" "CertificateDesk" "store" "LCertificateDesk$Store;") ∈ cd_tbl := tb_1 (List.mem_of_getElem? (i := 168) (by decide +kernel)) (by decide)
theorem kw_1_170 : (Jvm.Cond.laysFinal "CertificateDesk" "CertificateDesk" "network" "[I") ∈ cd_tbl := tb_1 (List.mem_of_getElem? (i := 170) (by decide +kernel)) (by decide)
theorem kw_1_172 : (Jvm.Cond.laysFinal "CertificateDesk" "CertificateDesk" "accounts" "Ljava/util/ArrayList;") ∈ cd_tbl := tb_1 (List.mem_of_getElem? (i := 172) (by decide +kernel)) (by decide)
theorem kw_1_174 : (Jvm.Cond.laysFinal "CertificateDesk" "CertificateDesk" "orders" "Ljava/util/ArrayList;") ∈ cd_tbl := tb_1 (List.mem_of_getElem? (i := 174) (by decide +kernel)) (by decide)
theorem kw_1_176 : (Jvm.Cond.laysFinal "CertificateDesk" "CertificateDesk" "authorizations" "Ljava/util/ArrayList;") ∈ cd_tbl := tb_1 (List.mem_of_getElem? (i := 176) (by decide +kernel)) (by decide)
theorem kw_1_178 : (Jvm.Cond.laysFinal "CertificateDesk" "CertificateDesk" "certificates" "Ljava/util/ArrayList;") ∈ cd_tbl := tb_1 (List.mem_of_getElem? (i := 178) (by decide +kernel)) (by decide)
theorem kw_1_180 : (Jvm.Cond.lays "CertificateDesk" "CertificateDesk" "now" "I") ∈ cd_tbl := tb_1 (List.mem_of_getElem? (i := 180) (by decide +kernel)) (by decide)
theorem kw_1_182 : (Jvm.Cond.lays "CertificateDesk" "CertificateDesk" "latestSignature" "I") ∈ cd_tbl := tb_1 (List.mem_of_getElem? (i := 182) (by decide +kernel)) (by decide)
theorem kw_1_30 : (Jvm.Cond.instantiable "CertificateDesk" (14 : Nat)) ∈ cd_tbl := tb_1 (List.mem_of_getElem? (i := 30) (by decide +kernel)) (by decide)
theorem cl_0 : cd_CL 0 14 := ⟨_, rfl, List.forall_mem_cons.mpr ⟨kw_1_156, List.forall_mem_cons.mpr ⟨kw_1_158, List.forall_mem_cons.mpr ⟨kw_1_160, List.forall_mem_cons.mpr ⟨kw_1_162, List.forall_mem_cons.mpr ⟨kw_1_164, List.forall_mem_cons.mpr ⟨kw_1_166, List.forall_mem_cons.mpr ⟨kw_1_168, List.forall_mem_cons.mpr ⟨kw_1_170, List.forall_mem_cons.mpr ⟨kw_1_172, List.forall_mem_cons.mpr ⟨kw_1_174, List.forall_mem_cons.mpr ⟨kw_1_176, List.forall_mem_cons.mpr ⟨kw_1_178, List.forall_mem_cons.mpr ⟨kw_1_180, List.forall_mem_cons.mpr ⟨kw_1_182, fun _ h => absurd h List.not_mem_nil⟩⟩⟩⟩⟩⟩⟩⟩⟩⟩⟩⟩⟩⟩, by decide +kernel, by decide +kernel, kw_1_30, kw_1_1, by decide +kernel⟩
theorem fp_Desk_admit_87 {X : cd_E} : cd_FP X m_Desk_admit 87 0 13 .int := cd_FP.of cl_0 rfl rfl (by decide) kw_1_155 (Or.inl rfl) (Or.inl rfl)
theorem d_Desk_admit_18 : decode prog_1_method_32_code 18 = .ok (.aload_n 0, 1) := by decide +kernel
theorem d_Desk_admit_19 : decode prog_1_method_32_code 19 = .ok (.getfield 48, 3) := by decide +kernel
theorem d_Desk_admit_22 : decode prog_1_method_32_code 22 = .ok (.iload_n 2, 1) := by decide +kernel
theorem d_Desk_admit_23 : decode prog_1_method_32_code 23 = .ok (.invokevirtual 265, 3) := by decide +kernel
theorem kw_2_0 : (Jvm.Cond.methodLink "CertificateDesk" (265 : Nat) ({ cls := "CertificateDesk$Nonces", name := "spend", desc := "(I)Z" } : Jvm.MethodName)) ∈ cd_tbl := tb_2 (List.mem_of_getElem? (i := 0) (by decide +kernel)) (by decide)
theorem kw_2_3 : (Jvm.Cond.code ({ cls := "CertificateDesk$Nonces", name := "spend", desc := "(I)Z" } : Jvm.MethodName) prog_8_method_3_code (3 : Nat) (Option.some Jvm.ClassFile.FieldType.boolean)) ∈ cd_tbl := tb_2 (List.mem_of_getElem? (i := 3) (by decide +kernel)) (by decide)
theorem kw_2_1 : (Jvm.Cond.instanceMethod ({ cls := "CertificateDesk$Nonces", name := "spend", desc := "(I)Z" } : Jvm.MethodName)) ∈ cd_tbl := tb_2 (List.mem_of_getElem? (i := 1) (by decide +kernel)) (by decide)
theorem kw_2_2 : (Jvm.Cond.selects "CertificateDesk$Nonces" ({ cls := "CertificateDesk$Nonces", name := "spend", desc := "(I)Z" } : Jvm.MethodName) ({ cls := "CertificateDesk$Nonces", name := "spend", desc := "(I)Z" } : Jvm.MethodName)) ∈ cd_tbl := tb_2 (List.mem_of_getElem? (i := 2) (by decide +kernel)) (by decide)
theorem ca_Desk_admit_265 {X : cd_E} : cd_CV X m_Desk_admit m_Non_spend 265 1 5 := ⟨⟨by decide, kw_2_3, kw_1_4, ⟨by decide, by decide, by decide +kernel⟩, by decide, by decide⟩, ⟨_, rfl, rfl⟩, kw_2_1, kw_2_2, (Or.inl kw_2_0)⟩
theorem d_Desk_admit_26 : decode prog_1_method_32_code 26 = .ok (.ifCond .ne 6, 3) := by decide +kernel
theorem d_Desk_admit_32 : decode prog_1_method_32_code 32 = .ok (.iload_n 3, 1) := by decide +kernel
theorem d_Desk_admit_33 : decode prog_1_method_32_code 33 = .ok (.iconst (-1), 1) := by decide +kernel
theorem d_Desk_admit_34 : decode prog_1_method_32_code 34 = .ok (.if_icmp .ne 7, 3) := by decide +kernel
theorem d_Desk_admit_41 : decode prog_1_method_32_code 41 = .ok (.aload_n 0, 1) := by decide +kernel
theorem d_Desk_admit_42 : decode prog_1_method_32_code 42 = .ok (.iload_n 3, 1) := by decide +kernel
theorem d_Desk_admit_43 : decode prog_1_method_32_code 43 = .ok (.invokevirtual 106, 3) := by decide +kernel
theorem kw_2_4 : (Jvm.Cond.methodLink "CertificateDesk" (106 : Nat) ({ cls := "CertificateDesk", name := "accountAt", desc := "(I)LCertificateDesk$Account;" } : Jvm.MethodName)) ∈ cd_tbl := tb_2 (List.mem_of_getElem? (i := 4) (by decide +kernel)) (by decide)
theorem kw_2_7 : (Jvm.Cond.code ({ cls := "CertificateDesk", name := "accountAt", desc := "(I)LCertificateDesk$Account;" } : Jvm.MethodName) prog_1_method_22_code (2 : Nat) (Option.some (Jvm.ClassFile.FieldType.object "CertificateDesk$Account"))) ∈ cd_tbl := tb_2 (List.mem_of_getElem? (i := 7) (by decide +kernel)) (by decide)
theorem kw_2_6 : (Jvm.Cond.instanceMethod ({ cls := "CertificateDesk", name := "accountAt", desc := "(I)LCertificateDesk$Account;" } : Jvm.MethodName)) ∈ cd_tbl := tb_2 (List.mem_of_getElem? (i := 6) (by decide +kernel)) (by decide)
theorem kp_4 : Cond.selects "CertificateDesk" ⟨"CertificateDesk", "accountAt", "(I)LCertificateDesk$Account;"⟩ ⟨"CertificateDesk", "accountAt", "(I)LCertificateDesk$Account;"⟩ ∈ cd_tbl := cd_sel (List.mem_of_getElem? (i := 4) (by decide +kernel)) (by decide)
theorem ca_Desk_admit_106 {X : cd_E} : cd_CV X m_Desk_admit m_Desk_accountAt 106 1 0 := ⟨⟨by decide, kw_2_7, kw_1_1, ⟨by decide, by decide, by decide +kernel⟩, by decide, by decide⟩, ⟨_, rfl, rfl⟩, kw_2_6, kp_4, (Or.inl kw_2_4)⟩
theorem d_Desk_admit_46 : decode prog_1_method_32_code 46 = .ok (.invokestatic 268, 3) := by decide +kernel
theorem kw_2_27 : (Jvm.Cond.methodLink "CertificateDesk" (268 : Nat) ({ cls := "CertificateDesk", name := "openKey", desc := "(LCertificateDesk$Account;)LCertificateDesk$Key;" } : Jvm.MethodName)) ∈ cd_tbl := tb_2 (List.mem_of_getElem? (i := 27) (by decide +kernel)) (by decide)
theorem kw_2_29 : (Jvm.Cond.code ({ cls := "CertificateDesk", name := "openKey", desc := "(LCertificateDesk$Account;)LCertificateDesk$Key;" } : Jvm.MethodName) prog_1_method_34_code (1 : Nat) (Option.some (Jvm.ClassFile.FieldType.object "CertificateDesk$Key"))) ∈ cd_tbl := tb_2 (List.mem_of_getElem? (i := 29) (by decide +kernel)) (by decide)
theorem kw_2_28 : (Jvm.Cond.static ({ cls := "CertificateDesk", name := "openKey", desc := "(LCertificateDesk$Account;)LCertificateDesk$Key;" } : Jvm.MethodName)) ∈ cd_tbl := tb_2 (List.mem_of_getElem? (i := 28) (by decide +kernel)) (by decide)
theorem ca_Desk_admit_268 {X : cd_E} : cd_CS X m_Desk_admit m_Desk_openKey 268 1 := ⟨⟨by decide, kw_2_29, kw_1_1, ⟨by decide, by decide, by decide +kernel⟩, by decide, by decide⟩, kw_2_28, (Or.inl kw_2_27)⟩
theorem d_Desk_admit_49 : decode prog_1_method_32_code 49 = .ok (.astore 6, 2) := by decide +kernel
theorem d_Desk_admit_51 : decode prog_1_method_32_code 51 = .ok (.aload 6, 2) := by decide +kernel
theorem d_Desk_admit_53 : decode prog_1_method_32_code 53 = .ok (.ifnull 20, 3) := by decide +kernel
theorem d_Desk_admit_73 : decode prog_1_method_32_code 73 = .ok (.bipush (-3), 2) := by decide +kernel
theorem d_Desk_admit_75 : decode prog_1_method_32_code 75 = .ok (.ireturn, 1) := by decide +kernel
theorem d_Desk_admit_56 : decode prog_1_method_32_code 56 = .ok (.aload 6, 2) := by decide +kernel
theorem d_Desk_admit_58 : decode prog_1_method_32_code 58 = .ok (.aload_n 0, 1) := by decide +kernel
theorem d_Desk_admit_59 : decode prog_1_method_32_code 59 = .ok (.getfield 87, 3) := by decide +kernel
theorem fl_Desk_87 {X : cd_E} : cd_FL X "CertificateDesk" 87 0 13 .int := cd_FL.of rfl rfl (by decide) kw_1_155 (Or.inl rfl)
theorem d_Desk_admit_62 : decode prog_1_method_32_code 62 = .ok (.iload 4, 2) := by decide +kernel
theorem d_Desk_admit_64 : decode prog_1_method_32_code 64 = .ok (.ixor, 1) := by decide +kernel
theorem d_Desk_admit_65 : decode prog_1_method_32_code 65 = .ok (.iload 5, 2) := by decide +kernel
theorem d_Desk_admit_67 : decode prog_1_method_32_code 67 = .ok (.invokevirtual 272, 3) := by decide +kernel
theorem kw_2_30 : (Jvm.Cond.methodLink "CertificateDesk" (272 : Nat) ({ cls := "CertificateDesk$Key", name := "verifies", desc := "(II)Z" } : Jvm.MethodName)) ∈ cd_tbl := tb_2 (List.mem_of_getElem? (i := 30) (by decide +kernel)) (by decide)
theorem kw_2_33 : (Jvm.Cond.code ({ cls := "CertificateDesk$Key", name := "verifies", desc := "(II)Z" } : Jvm.MethodName) prog_7_method_4_code (3 : Nat) (Option.some Jvm.ClassFile.FieldType.boolean)) ∈ cd_tbl := tb_2 (List.mem_of_getElem? (i := 33) (by decide +kernel)) (by decide)
theorem kw_2_31 : (Jvm.Cond.instanceMethod ({ cls := "CertificateDesk$Key", name := "verifies", desc := "(II)Z" } : Jvm.MethodName)) ∈ cd_tbl := tb_2 (List.mem_of_getElem? (i := 31) (by decide +kernel)) (by decide)
theorem kw_2_32 : (Jvm.Cond.selects "CertificateDesk$Key" ({ cls := "CertificateDesk$Key", name := "verifies", desc := "(II)Z" } : Jvm.MethodName) ({ cls := "CertificateDesk$Key", name := "verifies", desc := "(II)Z" } : Jvm.MethodName)) ∈ cd_tbl := tb_2 (List.mem_of_getElem? (i := 32) (by decide +kernel)) (by decide)
theorem ca_Desk_admit_272 {X : cd_E} : cd_CV X m_Desk_admit m_Key_verifies 272 2 4 := ⟨⟨by decide, kw_2_33, kw_1_2, ⟨by decide, by decide, by decide +kernel⟩, by decide, by decide⟩, ⟨_, rfl, rfl⟩, kw_2_31, kw_2_32, (Or.inl kw_2_30)⟩
theorem d_Desk_admit_70 : decode prog_1_method_32_code 70 = .ok (.ifCond .ne 6, 3) := by decide +kernel
theorem d_Desk_admit_76 : decode prog_1_method_32_code 76 = .ok (.iconst 0, 1) := by decide +kernel
theorem d_Desk_admit_77 : decode prog_1_method_32_code 77 = .ok (.ireturn, 1) := by decide +kernel
theorem d_Desk_admit_37 : decode prog_1_method_32_code 37 = .ok (.aload_n 1, 1) := by decide +kernel
theorem d_Desk_admit_38 : decode prog_1_method_32_code 38 = .ok (.goto 11, 3) := by decide +kernel
theorem d_Desk_admit_29 : decode prog_1_method_32_code 29 = .ok (.bipush (-2), 2) := by decide +kernel
theorem d_Desk_admit_31 : decode prog_1_method_32_code 31 = .ok (.ireturn, 1) := by decide +kernel
theorem g_Desk_admit {X : cd_E} {kc ks : Nat} {h : cd_H} {Q : Option Value → cd_H → Prop} {p1 : Nat} {p2 : Int32} {p3 : Int32} {p4 : Int32} (F : cc_ok h) (H : cd_W X m_Desk_requestDigest 0 0 0 [some (.ref 64), some (.int p2), some (.int p3), none] [] h (fun r1 h2 => ∃ x3 : Int32, r1 = some (.int x3) ∧ ((cc_ok h2) ∧ ((cd_k h2 p1 = some (.inl 4)) ∧ (cd_W X m_Key_sign 0 0 0 [some (.ref p1), some (.int x3)] [] h2 (fun r6 h7 => ∃ x8 : Int32, r6 = some (.int x8) ∧ ((cc_ok h7) ∧ (cd_W X m_Non_spend 0 0 0 [some (.ref 74), some (.int p2), none] [] (cd_si h7 64 13 x8) (fun r10 h11 => ∃ x12 : Int32, r10 = some (.int x12) ∧ ((cc_ok h11) ∧ ((((¬ x12 = 0) → ((((¬ p3 = (-1)) → (cd_W X m_Desk_accountAt 0 0 0 [some (.ref 64), some (.int p3)] [] h11 (fun r16 h17 => ∃ o18 : Option Nat, r16 = some (va_rf o18) ∧ ((cc_ok h17) ∧ (cd_W X m_Desk_openKey 0 0 0 [some (va_rf o18)] [] h17 (fun r20 h21 => ∃ o22 : Option Nat, r20 = some (va_rf o22) ∧ ((cc_ok h21) ∧ ((((o22 = none) → (Q (some (.int (-3))) h21)) ∧ (∀ b25 : Nat, o22 = some b25 → ((cd_k h21 b25 = some (.inl 4)) ∧ (cd_W X m_Key_verifies 0 0 0 [some (.ref b25), some (.int ((cd_i h21 64 13) ^^^ p4)), some (.int x3)] [] h21 (fun r27 h28 => ∃ x29 : Int32, r27 = some (.int x29) ∧ ((cc_ok h28) ∧ ((((¬ x29 = 0) → (Q (some (.int 0)) h28)) ∧ ((x29 = 0) → (Q (some (.int (-3))) h28)))))))))))))))))) ∧ ((p3 = (-1)) → ((cd_k h11 p1 = some (.inl 4)) ∧ (cd_W X m_Key_verifies 0 0 0 [some (.ref p1), some (.int ((cd_i h11 64 13) ^^^ p4)), some (.int x3)] [] h11 (fun r33 h34 => ∃ x35 : Int32, r33 = some (.int x35) ∧ ((cc_ok h34) ∧ ((((¬ x35 = 0) → (Q (some (.int 0)) h34)) ∧ ((x35 = 0) → (Q (some (.int (-3))) h34)))))))))))) ∧ ((x12 = 0) → (Q (some (.int (-2))) h11)))))))))))))) : cd_W X m_Desk_admit kc ks 0 [some (.ref 64), some (.ref p1), some (.int p2), some (.int p3), some (.int p4), none, none] [] h Q := by
  refine cd_aload_n (i := 0) (v := .ref 64) d_Desk_admit_0 rfl rfl (cd_isr_ref _) ?_
  refine cd_iload_n (i := 2) d_Desk_admit_1 rfl rfl ?_
  refine cd_iload_n (i := 3) d_Desk_admit_2 rfl rfl ?_
  refine cd_callV (kc := kc) (ks := ks) (kc' := 0) (ks' := 0) (As := [.int p2, .int p3]) (S := []) d_Desk_admit_3 ca_Desk_admit_262 (cc_k64 F) rfl (Nat.le_of_ble_eq_true rfl) (Nat.le_of_ble_eq_true rfl) ?_
  refine cd_W.mono (fun r1 h2 H => ?_) H
  obtain ⟨x3, rfl, H⟩ := H
  obtain ⟨F4, H⟩ := H
  show cd_W X m_Desk_admit kc ks 6 [some (.ref 64), some (.ref p1), some (.int p2), some (.int p3), some (.int p4), none, none] [.int x3] h2 Q
  refine cd_istore (i := 5) d_Desk_admit_6 (by decide) ?_
  show cd_W X m_Desk_admit kc ks 8 [some (.ref 64), some (.ref p1), some (.int p2), some (.int p3), some (.int p4), some (.int x3), none] [] h2 Q
  refine cd_aload_n (i := 0) (v := .ref 64) d_Desk_admit_8 rfl rfl (cd_isr_ref _) ?_
  refine cd_aload_n (i := 1) (v := .ref p1) d_Desk_admit_9 rfl rfl (cd_isr_ref _) ?_
  refine cd_iload (i := 5) d_Desk_admit_10 rfl ?_
  obtain ⟨c5, H⟩ := H
  refine cd_callV (kc := kc) (ks := ks) (kc' := 0) (ks' := 0) (As := [.int x3]) (S := [.ref 64]) d_Desk_admit_12 ca_Desk_admit_240 c5 rfl (Nat.le_of_ble_eq_true rfl) (Nat.le_of_ble_eq_true rfl) ?_
  refine cd_W.mono (fun r6 h7 H => ?_) H
  obtain ⟨x8, rfl, H⟩ := H
  obtain ⟨F9, H⟩ := H
  show cd_W X m_Desk_admit kc ks 15 [some (.ref 64), some (.ref p1), some (.int p2), some (.int p3), some (.int p4), some (.int x3), none] [.int x8, .ref 64] h7 Q
  refine cd_putI d_Desk_admit_15 fp_Desk_admit_87 (fun _ _ _ => rfl) (cc_k64 F9) (by decide) rfl rfl ?_
  refine cd_aload_n (i := 0) (v := .ref 64) d_Desk_admit_18 rfl rfl (cd_isr_ref _) ?_
  refine cd_get (v := .ref 74) d_Desk_admit_19 fl_Desk_48 (cc_k64 F9) (congrArg va_rf (cc_r64_5 F9)) ?_
  refine cd_iload_n (i := 2) d_Desk_admit_22 rfl rfl ?_
  refine cd_callV (kc := kc) (ks := ks) (kc' := 0) (ks' := 0) (As := [.int p2]) (S := []) d_Desk_admit_23 ca_Desk_admit_265 (cc_k74 F9) rfl (Nat.le_of_ble_eq_true rfl) (Nat.le_of_ble_eq_true rfl) ?_
  refine cd_W.mono (fun r10 h11 H => ?_) H
  obtain ⟨x12, rfl, H⟩ := H
  obtain ⟨F13, H⟩ := H
  show cd_W X m_Desk_admit kc ks 26 [some (.ref 64), some (.ref p1), some (.int p2), some (.int p3), some (.int p4), some (.int x3), none] [.int x12] h11 Q
  refine cd_if_ne (tgt := 32) d_Desk_admit_26 (by decide) (fun t14 => ?_) (fun t14 => ?_)
  · replace H := H.1 t14
    refine cd_iload_n (i := 3) d_Desk_admit_32 rfl rfl ?_
    refine cd_iconst (v := (-1)) d_Desk_admit_33 (by decide) ?_
    refine cd_icmp_ne (tgt := 41) d_Desk_admit_34 (by decide) (fun t15 => ?_) (fun t15 => ?_)
    · replace H := H.1 t15
      refine cd_aload_n (i := 0) (v := .ref 64) d_Desk_admit_41 rfl rfl (cd_isr_ref _) ?_
      refine cd_iload_n (i := 3) d_Desk_admit_42 rfl rfl ?_
      refine cd_callV (kc := kc) (ks := ks) (kc' := 0) (ks' := 0) (As := [.int p3]) (S := []) d_Desk_admit_43 ca_Desk_admit_106 (cc_k64 F13) rfl (Nat.le_of_ble_eq_true rfl) (Nat.le_of_ble_eq_true rfl) ?_
      refine cd_W.mono (fun r16 h17 H => ?_) H
      obtain ⟨o18, rfl, H⟩ := H
      obtain ⟨F19, H⟩ := H
      show cd_W X m_Desk_admit kc ks 46 [some (.ref 64), some (.ref p1), some (.int p2), some (.int p3), some (.int p4), some (.int x3), none] [va_rf o18] h17 Q
      refine cd_callS (kc := kc) (ks := ks) (kc' := 0) (ks' := 0) (As := [va_rf o18]) (S := []) d_Desk_admit_46 ca_Desk_admit_268 (by simp only [cd_args, cd_args_rf]; rfl) (by simp only [cd_args, cd_args_rf]; exact Nat.le_of_ble_eq_true rfl) (Nat.le_of_ble_eq_true rfl) ?_
      refine cd_W.mono (fun r20 h21 H => ?_) H
      obtain ⟨o22, rfl, H⟩ := H
      obtain ⟨F23, H⟩ := H
      show cd_W X m_Desk_admit kc ks 49 [some (.ref 64), some (.ref p1), some (.int p2), some (.int p3), some (.int p4), some (.int x3), none] [va_rf o22] h21 Q
      refine cd_astore (i := 6) d_Desk_admit_49 (by decide) (cd_isr_rf _) ?_
      show cd_W X m_Desk_admit kc ks 51 [some (.ref 64), some (.ref p1), some (.int p2), some (.int p3), some (.int p4), some (.int x3), some (va_rf o22)] [] h21 Q
      refine cd_aload (i := 6) (v := va_rf o22) d_Desk_admit_51 rfl (cd_isr_rf _) ?_
      refine cd_ifnull (r := o22) (tgt := 73) d_Desk_admit_53 (by decide) (fun t24 => ?_) (fun b25 t24 => ?_)
      · replace H := H.1 t24
        rw [cd_rfn t24]
        refine cd_bipush (v := (-3)) d_Desk_admit_73 (by decide) ?_
        exact cd_iret d_Desk_admit_75 rfl rfl H
      · replace H := H.2 b25 t24
        rw [cd_rfs t24]
        refine cd_aload (i := 6) (v := .ref b25) d_Desk_admit_56 rfl (cd_isr_ref _) ?_
        refine cd_aload_n (i := 0) (v := .ref 64) d_Desk_admit_58 rfl rfl (cd_isr_ref _) ?_
        refine cd_get (v := .int (cd_i h21 64 13)) d_Desk_admit_59 fl_Desk_87 (cc_k64 F23) rfl ?_
        refine cd_iload (i := 4) d_Desk_admit_62 rfl ?_
        refine cd_ixor d_Desk_admit_64 ?_
        refine cd_iload (i := 5) d_Desk_admit_65 rfl ?_
        obtain ⟨c26, H⟩ := H
        refine cd_callV (kc := kc) (ks := ks) (kc' := 0) (ks' := 0) (As := [.int ((cd_i h21 64 13) ^^^ p4), .int x3]) (S := []) d_Desk_admit_67 ca_Desk_admit_272 c26 rfl (Nat.le_of_ble_eq_true rfl) (Nat.le_of_ble_eq_true rfl) ?_
        refine cd_W.mono (fun r27 h28 H => ?_) H
        obtain ⟨x29, rfl, H⟩ := H
        obtain ⟨F30, H⟩ := H
        show cd_W X m_Desk_admit kc ks 70 [some (.ref 64), some (.ref p1), some (.int p2), some (.int p3), some (.int p4), some (.int x3), some (.ref b25)] [.int x29] h28 Q
        refine cd_if_ne (tgt := 76) d_Desk_admit_70 (by decide) (fun t31 => ?_) (fun t31 => ?_)
        · replace H := H.1 t31
          refine cd_iconst (v := 0) d_Desk_admit_76 (by decide) ?_
          exact cd_iret d_Desk_admit_77 rfl rfl H
        · replace H := H.2 t31
          refine cd_bipush (v := (-3)) d_Desk_admit_73 (by decide) ?_
          exact cd_iret d_Desk_admit_75 rfl rfl H
    · replace H := H.2 t15
      refine cd_aload_n (i := 1) (v := .ref p1) d_Desk_admit_37 rfl rfl (cd_isr_ref _) ?_
      refine cd_goto (tgt := 49) d_Desk_admit_38 (by decide) ?_
      refine cd_astore (i := 6) d_Desk_admit_49 (by decide) (cd_isr_ref _) ?_
      show cd_W X m_Desk_admit kc ks 51 [some (.ref 64), some (.ref p1), some (.int p2), some (.int p3), some (.int p4), some (.int x3), some (.ref p1)] [] h11 Q
      refine cd_aload (i := 6) (v := .ref p1) d_Desk_admit_51 rfl (cd_isr_ref _) ?_
      refine cd_ifnull (r := (some p1)) (tgt := 73) d_Desk_admit_53 (by decide) (fun hc => by cases hc) (fun _ _ => ?_)
      refine cd_aload (i := 6) (v := .ref p1) d_Desk_admit_56 rfl (cd_isr_ref _) ?_
      refine cd_aload_n (i := 0) (v := .ref 64) d_Desk_admit_58 rfl rfl (cd_isr_ref _) ?_
      refine cd_get (v := .int (cd_i h11 64 13)) d_Desk_admit_59 fl_Desk_87 (cc_k64 F13) rfl ?_
      refine cd_iload (i := 4) d_Desk_admit_62 rfl ?_
      refine cd_ixor d_Desk_admit_64 ?_
      refine cd_iload (i := 5) d_Desk_admit_65 rfl ?_
      obtain ⟨c32, H⟩ := H
      refine cd_callV (kc := kc) (ks := ks) (kc' := 0) (ks' := 0) (As := [.int ((cd_i h11 64 13) ^^^ p4), .int x3]) (S := []) d_Desk_admit_67 ca_Desk_admit_272 c32 rfl (Nat.le_of_ble_eq_true rfl) (Nat.le_of_ble_eq_true rfl) ?_
      refine cd_W.mono (fun r33 h34 H => ?_) H
      obtain ⟨x35, rfl, H⟩ := H
      obtain ⟨F36, H⟩ := H
      show cd_W X m_Desk_admit kc ks 70 [some (.ref 64), some (.ref p1), some (.int p2), some (.int p3), some (.int p4), some (.int x3), some (.ref p1)] [.int x35] h34 Q
      refine cd_if_ne (tgt := 76) d_Desk_admit_70 (by decide) (fun t37 => ?_) (fun t37 => ?_)
      · replace H := H.1 t37
        refine cd_iconst (v := 0) d_Desk_admit_76 (by decide) ?_
        exact cd_iret d_Desk_admit_77 rfl rfl H
      · replace H := H.2 t37
        refine cd_bipush (v := (-3)) d_Desk_admit_73 (by decide) ?_
        exact cd_iret d_Desk_admit_75 rfl rfl H
  · replace H := H.2 t14
    refine cd_bipush (v := (-2)) d_Desk_admit_29 (by decide) ?_
    exact cd_iret d_Desk_admit_31 rfl rfl H

abbrev m_Desk_areNames : cd_M := (⟨"CertificateDesk", "areNames", "(I)Z"⟩, prog_1_method_38_code, 4, some .boolean, 5, 113)
theorem d_Desk_areNames_0 : decode prog_1_method_38_code 0 = .ok (.iload_n 1, 1) := by decide +kernel
theorem d_Desk_areNames_1 : decode prog_1_method_38_code 1 = .ok (.iconst 1, 1) := by decide +kernel
theorem d_Desk_areNames_2 : decode prog_1_method_38_code 2 = .ok (.if_icmp .lt 8, 3) := by decide +kernel
theorem d_Desk_areNames_10 : decode prog_1_method_38_code 10 = .ok (.iconst 0, 1) := by decide +kernel
theorem d_Desk_areNames_11 : decode prog_1_method_38_code 11 = .ok (.ireturn, 1) := by decide +kernel
theorem d_Desk_areNames_5 : decode prog_1_method_38_code 5 = .ok (.iload_n 1, 1) := by decide +kernel
theorem d_Desk_areNames_6 : decode prog_1_method_38_code 6 = .ok (.iconst 3, 1) := by decide +kernel
theorem d_Desk_areNames_7 : decode prog_1_method_38_code 7 = .ok (.if_icmp .le 5, 3) := by decide +kernel
theorem d_Desk_areNames_12 : decode prog_1_method_38_code 12 = .ok (.iconst 0, 1) := by decide +kernel
theorem d_Desk_areNames_13 : decode prog_1_method_38_code 13 = .ok (.istore_n 2, 1) := by decide +kernel
theorem g_Desk_areNames {X : cd_E} {kc ks : Nat} {h : cd_H} {Q : Option Value → cd_H → Prop} {p1 : Int32} (F : cc_ok h) (H : (((p1 < 1) → (Q (some (.int 0)) h)) ∧ ((¬ p1 < 1) → ((((p1 ≤ 3) → (cd_W X m_Desk_areNames kc ks 14 [some (.ref 64), some (.int p1), some (.int 0), none] [] h Q)) ∧ ((¬ p1 ≤ 3) → (Q (some (.int 0)) h))))))) : cd_W X m_Desk_areNames kc ks 0 [some (.ref 64), some (.int p1), none, none] [] h Q := by
  refine cd_iload_n (i := 1) d_Desk_areNames_0 rfl rfl ?_
  refine cd_iconst (v := 1) d_Desk_areNames_1 (by decide) ?_
  refine cd_icmp_lt (tgt := 10) d_Desk_areNames_2 (by decide) (fun t1 => ?_) (fun t1 => ?_)
  · replace H := H.1 t1
    refine cd_iconst (v := 0) d_Desk_areNames_10 (by decide) ?_
    exact cd_iret d_Desk_areNames_11 rfl rfl H
  · replace H := H.2 t1
    refine cd_iload_n (i := 1) d_Desk_areNames_5 rfl rfl ?_
    refine cd_iconst (v := 3) d_Desk_areNames_6 (by decide) ?_
    refine cd_icmp_le (tgt := 12) d_Desk_areNames_7 (by decide) (fun t2 => ?_) (fun t2 => ?_)
    · replace H := H.1 t2
      refine cd_iconst (v := 0) d_Desk_areNames_12 (by decide) ?_
      refine cd_istore_n (i := 2) d_Desk_areNames_13 rfl (by decide) ?_
      show cd_W X m_Desk_areNames kc ks 14 [some (.ref 64), some (.int p1), some (.int 0), none] [] h Q
      exact H
    · replace H := H.2 t2
      refine cd_iconst (v := 0) d_Desk_areNames_10 (by decide) ?_
      exact cd_iret d_Desk_areNames_11 rfl rfl H

theorem d_Desk_areNames_14 : decode prog_1_method_38_code 14 = .ok (.iload_n 2, 1) := by decide +kernel
theorem d_Desk_areNames_15 : decode prog_1_method_38_code 15 = .ok (.iload_n 1, 1) := by decide +kernel
theorem d_Desk_areNames_16 : decode prog_1_method_38_code 16 = .ok (.if_icmp .ge 64, 3) := by decide +kernel
theorem d_Desk_areNames_80 : decode prog_1_method_38_code 80 = .ok (.iconst 1, 1) := by decide +kernel
theorem d_Desk_areNames_81 : decode prog_1_method_38_code 81 = .ok (.ireturn, 1) := by decide +kernel
theorem d_Desk_areNames_19 : decode prog_1_method_38_code 19 = .ok (.aload_n 0, 1) := by decide +kernel
theorem d_Desk_areNames_20 : decode prog_1_method_38_code 20 = .ok (.getfield 37, 3) := by decide +kernel
theorem d_Desk_areNames_23 : decode prog_1_method_38_code 23 = .ok (.aload_n 0, 1) := by decide +kernel
theorem d_Desk_areNames_24 : decode prog_1_method_38_code 24 = .ok (.getfield 41, 3) := by decide +kernel
theorem kw_1_146 : (Jvm.Cond.fieldLink "CertificateDesk" (41 : Nat) "CertificateDesk" "starts" "[I") ∈ cd_tbl := tb_1 (List.mem_of_getElem? (i := 146) (by decide +kernel)) (by decide)
theorem fl_Desk_41 {X : cd_E} : cd_FL X "CertificateDesk" 41 0 4 (.array .int) := cd_FL.of rfl rfl (by decide) kw_1_146 (Or.inl rfl)
theorem d_Desk_areNames_27 : decode prog_1_method_38_code 27 = .ok (.iload_n 2, 1) := by decide +kernel
theorem d_Desk_areNames_28 : decode prog_1_method_38_code 28 = .ok (.iaload, 1) := by decide +kernel
theorem d_Desk_areNames_29 : decode prog_1_method_38_code 29 = .ok (.invokevirtual 357, 3) := by decide +kernel
theorem kw_3_7 : (Jvm.Cond.methodLink "CertificateDesk" (357 : Nat) ({ cls := "CertificateDesk$Notation", name := "isName", desc := "(I)Z" } : Jvm.MethodName)) ∈ cd_tbl := tb_3 (List.mem_of_getElem? (i := 7) (by decide +kernel)) (by decide)
theorem kw_3_10 : (Jvm.Cond.code ({ cls := "CertificateDesk$Notation", name := "isName", desc := "(I)Z" } : Jvm.MethodName) prog_9_method_11_code (8 : Nat) (Option.some Jvm.ClassFile.FieldType.boolean)) ∈ cd_tbl := tb_3 (List.mem_of_getElem? (i := 10) (by decide +kernel)) (by decide)
theorem kw_3_8 : (Jvm.Cond.instanceMethod ({ cls := "CertificateDesk$Notation", name := "isName", desc := "(I)Z" } : Jvm.MethodName)) ∈ cd_tbl := tb_3 (List.mem_of_getElem? (i := 8) (by decide +kernel)) (by decide)
theorem kw_3_9 : (Jvm.Cond.selects "CertificateDesk$Notation" ({ cls := "CertificateDesk$Notation", name := "isName", desc := "(I)Z" } : Jvm.MethodName) ({ cls := "CertificateDesk$Notation", name := "isName", desc := "(I)Z" } : Jvm.MethodName)) ∈ cd_tbl := tb_3 (List.mem_of_getElem? (i := 9) (by decide +kernel)) (by decide)
theorem ca_Desk_areNames_357 {X : cd_E} : cd_CV X m_Desk_areNames m_Not_isName 357 1 6 := ⟨⟨by decide, kw_3_10, kw_1_3, ⟨by decide, by decide, by decide +kernel⟩, by decide, by decide⟩, ⟨_, rfl, rfl⟩, kw_3_8, kw_3_9, (Or.inl kw_3_7)⟩
theorem d_Desk_areNames_32 : decode prog_1_method_38_code 32 = .ok (.ifCond .ne 5, 3) := by decide +kernel
theorem d_Desk_areNames_37 : decode prog_1_method_38_code 37 = .ok (.iconst 0, 1) := by decide +kernel
theorem d_Desk_areNames_38 : decode prog_1_method_38_code 38 = .ok (.istore_n 3, 1) := by decide +kernel
theorem d_Desk_areNames_35 : decode prog_1_method_38_code 35 = .ok (.iconst 0, 1) := by decide +kernel
theorem d_Desk_areNames_36 : decode prog_1_method_38_code 36 = .ok (.ireturn, 1) := by decide +kernel
theorem g_Desk_areNames_14 {X : cd_E} {kc ks : Nat} {h : cd_H} {Q : Option Value → cd_H → Prop} {v1 : Int32} {v2 : Int32} (F : cc_ok h) (H : (((v1 ≤ v2) → (Q (some (.int 1)) h)) ∧ ((¬ v1 ≤ v2) → ((vp_in v2 32) ∧ (cd_W X m_Not_isName 0 0 0 [some (.ref 71), some (.int (cd_i h 73 v2.toNatClampNeg)), none, none, none, none, none, none] [] h (fun r3 h4 => ∃ x5 : Int32, r3 = some (.int x5) ∧ ((cc_ok h4) ∧ ((((¬ x5 = 0) → (cd_W X m_Desk_areNames kc ks 39 [some (.ref 64), some (.int v1), some (.int v2), some (.int 0)] [] h4 Q)) ∧ ((x5 = 0) → (Q (some (.int 0)) h4))))))))))) : cd_W X m_Desk_areNames kc ks 14 [some (.ref 64), some (.int v1), some (.int v2), none] [] h Q := by
  refine cd_iload_n (i := 2) d_Desk_areNames_14 rfl rfl ?_
  refine cd_iload_n (i := 1) d_Desk_areNames_15 rfl rfl ?_
  refine cd_icmp_ge (tgt := 80) d_Desk_areNames_16 (by decide) (fun t1 => ?_) (fun t1 => ?_)
  · replace H := H.1 t1
    refine cd_iconst (v := 1) d_Desk_areNames_80 (by decide) ?_
    exact cd_iret d_Desk_areNames_81 rfl rfl H
  · replace H := H.2 t1
    refine cd_aload_n (i := 0) (v := .ref 64) d_Desk_areNames_19 rfl rfl (cd_isr_ref _) ?_
    refine cd_get (v := .ref 71) d_Desk_areNames_20 fl_Desk_37 (cc_k64 F) (congrArg va_rf (cc_r64_3 F)) ?_
    refine cd_aload_n (i := 0) (v := .ref 64) d_Desk_areNames_23 rfl rfl (cd_isr_ref _) ?_
    refine cd_get (v := .ref 73) d_Desk_areNames_24 fl_Desk_41 (cc_k64 F) (congrArg va_rf (cc_r64_4 F)) ?_
    refine cd_iload_n (i := 2) d_Desk_areNames_27 rfl rfl ?_
    obtain ⟨c2, H⟩ := H
    refine cd_iald (j := v2) d_Desk_areNames_28 rfl (cc_k73 F) c2 ?_
    refine cd_callV (kc := kc) (ks := ks) (kc' := 0) (ks' := 0) (As := [.int (cd_i h 73 v2.toNatClampNeg)]) (S := []) d_Desk_areNames_29 ca_Desk_areNames_357 (cc_k71 F) rfl (Nat.le_of_ble_eq_true rfl) (Nat.le_of_ble_eq_true rfl) ?_
    refine cd_W.mono (fun r3 h4 H => ?_) H
    obtain ⟨x5, rfl, H⟩ := H
    obtain ⟨F6, H⟩ := H
    show cd_W X m_Desk_areNames kc ks 32 [some (.ref 64), some (.int v1), some (.int v2), none] [.int x5] h4 Q
    refine cd_if_ne (tgt := 37) d_Desk_areNames_32 (by decide) (fun t7 => ?_) (fun t7 => ?_)
    · replace H := H.1 t7
      refine cd_iconst (v := 0) d_Desk_areNames_37 (by decide) ?_
      refine cd_istore_n (i := 3) d_Desk_areNames_38 rfl (by decide) ?_
      show cd_W X m_Desk_areNames kc ks 39 [some (.ref 64), some (.int v1), some (.int v2), some (.int 0)] [] h4 Q
      exact H
    · replace H := H.2 t7
      refine cd_iconst (v := 0) d_Desk_areNames_35 (by decide) ?_
      exact cd_iret d_Desk_areNames_36 rfl rfl H

theorem d_Desk_areNames_39 : decode prog_1_method_38_code 39 = .ok (.iload_n 3, 1) := by decide +kernel
theorem d_Desk_areNames_40 : decode prog_1_method_38_code 40 = .ok (.iload_n 2, 1) := by decide +kernel
theorem d_Desk_areNames_41 : decode prog_1_method_38_code 41 = .ok (.if_icmp .ge 33, 3) := by decide +kernel
theorem d_Desk_areNames_74 : decode prog_1_method_38_code 74 = .ok (.iinc 2 1, 3) := by decide +kernel
theorem d_Desk_areNames_77 : decode prog_1_method_38_code 77 = .ok (.goto (-63), 3) := by decide +kernel
theorem d_Desk_areNames_44 : decode prog_1_method_38_code 44 = .ok (.aload_n 0, 1) := by decide +kernel
theorem d_Desk_areNames_45 : decode prog_1_method_38_code 45 = .ok (.getfield 37, 3) := by decide +kernel
theorem d_Desk_areNames_48 : decode prog_1_method_38_code 48 = .ok (.aload_n 0, 1) := by decide +kernel
theorem d_Desk_areNames_49 : decode prog_1_method_38_code 49 = .ok (.getfield 41, 3) := by decide +kernel
theorem d_Desk_areNames_52 : decode prog_1_method_38_code 52 = .ok (.iload_n 2, 1) := by decide +kernel
theorem d_Desk_areNames_53 : decode prog_1_method_38_code 53 = .ok (.iaload, 1) := by decide +kernel
theorem d_Desk_areNames_54 : decode prog_1_method_38_code 54 = .ok (.aload_n 0, 1) := by decide +kernel
theorem d_Desk_areNames_55 : decode prog_1_method_38_code 55 = .ok (.getfield 41, 3) := by decide +kernel
theorem d_Desk_areNames_58 : decode prog_1_method_38_code 58 = .ok (.iload_n 3, 1) := by decide +kernel
theorem d_Desk_areNames_59 : decode prog_1_method_38_code 59 = .ok (.iaload, 1) := by decide +kernel
theorem d_Desk_areNames_60 : decode prog_1_method_38_code 60 = .ok (.invokevirtual 360, 3) := by decide +kernel
theorem kw_3_15 : (Jvm.Cond.methodLink "CertificateDesk" (360 : Nat) ({ cls := "CertificateDesk$Notation", name := "areSame", desc := "(II)Z" } : Jvm.MethodName)) ∈ cd_tbl := tb_3 (List.mem_of_getElem? (i := 15) (by decide +kernel)) (by decide)
theorem kw_3_18 : (Jvm.Cond.code ({ cls := "CertificateDesk$Notation", name := "areSame", desc := "(II)Z" } : Jvm.MethodName) prog_9_method_10_code (5 : Nat) (Option.some Jvm.ClassFile.FieldType.boolean)) ∈ cd_tbl := tb_3 (List.mem_of_getElem? (i := 18) (by decide +kernel)) (by decide)
theorem kw_3_16 : (Jvm.Cond.instanceMethod ({ cls := "CertificateDesk$Notation", name := "areSame", desc := "(II)Z" } : Jvm.MethodName)) ∈ cd_tbl := tb_3 (List.mem_of_getElem? (i := 16) (by decide +kernel)) (by decide)
theorem kw_3_17 : (Jvm.Cond.selects "CertificateDesk$Notation" ({ cls := "CertificateDesk$Notation", name := "areSame", desc := "(II)Z" } : Jvm.MethodName) ({ cls := "CertificateDesk$Notation", name := "areSame", desc := "(II)Z" } : Jvm.MethodName)) ∈ cd_tbl := tb_3 (List.mem_of_getElem? (i := 17) (by decide +kernel)) (by decide)
theorem ca_Desk_areNames_360 {X : cd_E} : cd_CV X m_Desk_areNames m_Not_areSame 360 2 6 := ⟨⟨by decide, kw_3_18, kw_1_3, ⟨by decide, by decide, by decide +kernel⟩, by decide, by decide⟩, ⟨_, rfl, rfl⟩, kw_3_16, kw_3_17, (Or.inl kw_3_15)⟩
theorem d_Desk_areNames_63 : decode prog_1_method_38_code 63 = .ok (.ifCond .eq 5, 3) := by decide +kernel
theorem d_Desk_areNames_68 : decode prog_1_method_38_code 68 = .ok (.iinc 3 1, 3) := by decide +kernel
theorem d_Desk_areNames_71 : decode prog_1_method_38_code 71 = .ok (.goto (-32), 3) := by decide +kernel
theorem d_Desk_areNames_66 : decode prog_1_method_38_code 66 = .ok (.iconst 0, 1) := by decide +kernel
theorem d_Desk_areNames_67 : decode prog_1_method_38_code 67 = .ok (.ireturn, 1) := by decide +kernel
theorem g_Desk_areNames_39 {X : cd_E} {kc ks : Nat} {h : cd_H} {Q : Option Value → cd_H → Prop} {v1 : Int32} {v2 : Int32} {v3 : Int32} (F : cc_ok h) (H : (((v2 ≤ v3) → (cd_W X m_Desk_areNames kc ks 14 [some (.ref 64), some (.int v1), some (.int (v2 + 1)), none] [] h Q)) ∧ ((¬ v2 ≤ v3) → ((vp_in v2 32) ∧ ((vp_in v3 32) ∧ (cd_W X m_Not_areSame 0 0 0 [some (.ref 71), some (.int (cd_i h 73 v2.toNatClampNeg)), some (.int (cd_i h 73 v3.toNatClampNeg)), none, none] [] h (fun r4 h5 => ∃ x6 : Int32, r4 = some (.int x6) ∧ ((cc_ok h5) ∧ ((((x6 = 0) → (cd_W X m_Desk_areNames kc ks 39 [some (.ref 64), some (.int v1), some (.int v2), some (.int (v3 + 1))] [] h5 Q)) ∧ ((¬ x6 = 0) → (Q (some (.int 0)) h5)))))))))))) : cd_W X m_Desk_areNames kc ks 39 [some (.ref 64), some (.int v1), some (.int v2), some (.int v3)] [] h Q := by
  refine cd_iload_n (i := 3) d_Desk_areNames_39 rfl rfl ?_
  refine cd_iload_n (i := 2) d_Desk_areNames_40 rfl rfl ?_
  refine cd_icmp_ge (tgt := 74) d_Desk_areNames_41 (by decide) (fun t1 => ?_) (fun t1 => ?_)
  · replace H := H.1 t1
    refine cd_iinc (i := 2) (v := (v2 + 1)) d_Desk_areNames_74 rfl (cd_inc1 _) (by decide) ?_
    show cd_W X m_Desk_areNames kc ks 77 [some (.ref 64), some (.int v1), some (.int (v2 + 1)), some (.int v3)] [] h Q
    refine cd_goto (tgt := 14) d_Desk_areNames_77 (by decide) ?_
    refine cd_W.drop (i := 3) ?_
    exact H
  · replace H := H.2 t1
    refine cd_aload_n (i := 0) (v := .ref 64) d_Desk_areNames_44 rfl rfl (cd_isr_ref _) ?_
    refine cd_get (v := .ref 71) d_Desk_areNames_45 fl_Desk_37 (cc_k64 F) (congrArg va_rf (cc_r64_3 F)) ?_
    refine cd_aload_n (i := 0) (v := .ref 64) d_Desk_areNames_48 rfl rfl (cd_isr_ref _) ?_
    refine cd_get (v := .ref 73) d_Desk_areNames_49 fl_Desk_41 (cc_k64 F) (congrArg va_rf (cc_r64_4 F)) ?_
    refine cd_iload_n (i := 2) d_Desk_areNames_52 rfl rfl ?_
    obtain ⟨c2, H⟩ := H
    refine cd_iald (j := v2) d_Desk_areNames_53 rfl (cc_k73 F) c2 ?_
    refine cd_aload_n (i := 0) (v := .ref 64) d_Desk_areNames_54 rfl rfl (cd_isr_ref _) ?_
    refine cd_get (v := .ref 73) d_Desk_areNames_55 fl_Desk_41 (cc_k64 F) (congrArg va_rf (cc_r64_4 F)) ?_
    refine cd_iload_n (i := 3) d_Desk_areNames_58 rfl rfl ?_
    obtain ⟨c3, H⟩ := H
    refine cd_iald (j := v3) d_Desk_areNames_59 rfl (cc_k73 F) c3 ?_
    refine cd_callV (kc := kc) (ks := ks) (kc' := 0) (ks' := 0) (As := [.int (cd_i h 73 v2.toNatClampNeg), .int (cd_i h 73 v3.toNatClampNeg)]) (S := []) d_Desk_areNames_60 ca_Desk_areNames_360 (cc_k71 F) rfl (Nat.le_of_ble_eq_true rfl) (Nat.le_of_ble_eq_true rfl) ?_
    refine cd_W.mono (fun r4 h5 H => ?_) H
    obtain ⟨x6, rfl, H⟩ := H
    obtain ⟨F7, H⟩ := H
    show cd_W X m_Desk_areNames kc ks 63 [some (.ref 64), some (.int v1), some (.int v2), some (.int v3)] [.int x6] h5 Q
    refine cd_if_eq (tgt := 68) d_Desk_areNames_63 (by decide) (fun t8 => ?_) (fun t8 => ?_)
    · replace H := H.1 t8
      refine cd_iinc (i := 3) (v := (v3 + 1)) d_Desk_areNames_68 rfl (cd_inc1 _) (by decide) ?_
      show cd_W X m_Desk_areNames kc ks 71 [some (.ref 64), some (.int v1), some (.int v2), some (.int (v3 + 1))] [] h5 Q
      refine cd_goto (tgt := 39) d_Desk_areNames_71 (by decide) ?_
      exact H
    · replace H := H.2 t8
      refine cd_iconst (v := 0) d_Desk_areNames_66 (by decide) ?_
      exact cd_iret d_Desk_areNames_67 rfl rfl H

abbrev m_Desk_provedPart : cd_M := (⟨"CertificateDesk", "provedPart", "(LCertificateDesk$Account;I)LCertificateDesk$Authorization;"⟩, prog_1_method_39_code, 5, some (.object "CertificateDesk$Authorization"), 28, 615)
theorem d_Desk_provedPart_0 : decode prog_1_method_39_code 0 = .ok (.iconst 0, 1) := by decide +kernel
theorem d_Desk_provedPart_1 : decode prog_1_method_39_code 1 = .ok (.istore_n 3, 1) := by decide +kernel
theorem g_Desk_provedPart {X : cd_E} {kc ks : Nat} {h : cd_H} {Q : Option Value → cd_H → Prop} {p1 : Nat} {p2 : Int32} (F : cc_ok h) (H : cd_W X m_Desk_provedPart kc ks 2 [some (.ref 64), some (.ref p1), some (.int p2), some (.int 0), none] [] h Q) : cd_W X m_Desk_provedPart kc ks 0 [some (.ref 64), some (.ref p1), some (.int p2), none, none] [] h Q := by
  refine cd_iconst (v := 0) d_Desk_provedPart_0 (by decide) ?_
  refine cd_istore_n (i := 3) d_Desk_provedPart_1 rfl (by decide) ?_
  show cd_W X m_Desk_provedPart kc ks 2 [some (.ref 64), some (.ref p1), some (.int p2), some (.int 0), none] [] h Q
  exact H

theorem d_Desk_provedPart_2 : decode prog_1_method_39_code 2 = .ok (.iload_n 3, 1) := by decide +kernel
theorem d_Desk_provedPart_3 : decode prog_1_method_39_code 3 = .ok (.aload_n 0, 1) := by decide +kernel
theorem d_Desk_provedPart_4 : decode prog_1_method_39_code 4 = .ok (.getfield 78, 3) := by decide +kernel
theorem d_Desk_provedPart_7 : decode prog_1_method_39_code 7 = .ok (.invokevirtual 135, 3) := by decide +kernel
theorem ca_Desk_provedPart_135 {X : cd_E} : cd_CV X m_Desk_provedPart m_AL_size 135 0 12 := ⟨⟨by decide, kw_2_11, kw_1_9, ⟨by decide, by decide, by decide +kernel⟩, by decide, by decide⟩, ⟨_, rfl, rfl⟩, kw_2_9, kw_2_10, (Or.inl kw_2_8)⟩
theorem d_Desk_provedPart_10 : decode prog_1_method_39_code 10 = .ok (.if_icmp .ge 60, 3) := by decide +kernel
theorem d_Desk_provedPart_70 : decode prog_1_method_39_code 70 = .ok (.aconst_null, 1) := by decide +kernel
theorem d_Desk_provedPart_71 : decode prog_1_method_39_code 71 = .ok (.areturn, 1) := by decide +kernel
theorem d_Desk_provedPart_13 : decode prog_1_method_39_code 13 = .ok (.aload_n 0, 1) := by decide +kernel
theorem d_Desk_provedPart_14 : decode prog_1_method_39_code 14 = .ok (.getfield 78, 3) := by decide +kernel
theorem d_Desk_provedPart_17 : decode prog_1_method_39_code 17 = .ok (.iload_n 3, 1) := by decide +kernel
theorem d_Desk_provedPart_18 : decode prog_1_method_39_code 18 = .ok (.invokevirtual 138, 3) := by decide +kernel
theorem ca_Desk_provedPart_138 {X : cd_E} : cd_CV X m_Desk_provedPart m_AL_get 138 1 12 := ⟨⟨by decide, kw_2_15, kw_1_9, ⟨by decide, by decide, by decide +kernel⟩, by decide, by decide⟩, ⟨_, rfl, rfl⟩, kw_2_13, kw_2_14, (Or.inl kw_2_12)⟩
theorem d_Desk_provedPart_21 : decode prog_1_method_39_code 21 = .ok (.checkcast 130, 3) := by decide +kernel
theorem d_Desk_provedPart_24 : decode prog_1_method_39_code 24 = .ok (.astore 4, 2) := by decide +kernel
theorem d_Desk_provedPart_26 : decode prog_1_method_39_code 26 = .ok (.aload 4, 2) := by decide +kernel
theorem d_Desk_provedPart_28 : decode prog_1_method_39_code 28 = .ok (.getfield 246, 3) := by decide +kernel
theorem d_Desk_provedPart_31 : decode prog_1_method_39_code 31 = .ok (.aload_n 1, 1) := by decide +kernel
theorem d_Desk_provedPart_32 : decode prog_1_method_39_code 32 = .ok (.if_acmp .ne 32, 3) := by decide +kernel
theorem d_Desk_provedPart_64 : decode prog_1_method_39_code 64 = .ok (.iinc 3 1, 3) := by decide +kernel
theorem d_Desk_provedPart_67 : decode prog_1_method_39_code 67 = .ok (.goto (-65), 3) := by decide +kernel
theorem d_Desk_provedPart_35 : decode prog_1_method_39_code 35 = .ok (.aload_n 0, 1) := by decide +kernel
theorem d_Desk_provedPart_36 : decode prog_1_method_39_code 36 = .ok (.getfield 37, 3) := by decide +kernel
theorem d_Desk_provedPart_39 : decode prog_1_method_39_code 39 = .ok (.iload_n 2, 1) := by decide +kernel
theorem d_Desk_provedPart_40 : decode prog_1_method_39_code 40 = .ok (.aload 4, 2) := by decide +kernel
theorem d_Desk_provedPart_42 : decode prog_1_method_39_code 42 = .ok (.getfield 363, 3) := by decide +kernel
theorem kw_3_230 : (Jvm.Cond.fieldLink "CertificateDesk" (363 : Nat) "CertificateDesk$Authorization" "name" "Ljava/lang/String;") ∈ cd_tbl := tb_3 (List.mem_of_getElem? (i := 230) (by decide +kernel)) (by decide)
theorem fl_Desk_363 {X : cd_E} : cd_FL X "CertificateDesk" 363 2 2 (.object "java/lang/String") := cd_FL.of rfl rfl (by decide) kw_3_230 (Or.inl rfl)
theorem d_Desk_provedPart_45 : decode prog_1_method_39_code 45 = .ok (.invokevirtual 294, 3) := by decide +kernel
theorem kw_2_122 : (Jvm.Cond.methodLink "CertificateDesk" (294 : Nat) ({ cls := "CertificateDesk$Notation", name := "spells", desc := "(ILjava/lang/String;)Z" } : Jvm.MethodName)) ∈ cd_tbl := tb_2 (List.mem_of_getElem? (i := 122) (by decide +kernel)) (by decide)
theorem ca_Desk_provedPart_294 {X : cd_E} : cd_CV X m_Desk_provedPart m_Not_spells 294 2 6 := ⟨⟨by decide, kw_2_74, kw_1_3, ⟨by decide, by decide, by decide +kernel⟩, by decide, by decide⟩, ⟨_, rfl, rfl⟩, kw_2_72, kw_2_73, (Or.inl kw_2_122)⟩
theorem d_Desk_provedPart_48 : decode prog_1_method_39_code 48 = .ok (.ifCond .eq 16, 3) := by decide +kernel
theorem d_Desk_provedPart_51 : decode prog_1_method_39_code 51 = .ok (.aload_n 0, 1) := by decide +kernel
theorem d_Desk_provedPart_52 : decode prog_1_method_39_code 52 = .ok (.aload 4, 2) := by decide +kernel
theorem d_Desk_provedPart_54 : decode prog_1_method_39_code 54 = .ok (.invokevirtual 142, 3) := by decide +kernel
theorem ca_Desk_provedPart_142 {X : cd_E} : cd_CV X m_Desk_provedPart m_Desk_authorizationState 142 1 0 := ⟨⟨by decide, kw_3_26, kw_1_1, ⟨by decide, by decide, by decide +kernel⟩, by decide, by decide⟩, ⟨_, rfl, rfl⟩, kw_3_25, kp_20, (Or.inl kw_3_23)⟩
theorem d_Desk_provedPart_57 : decode prog_1_method_39_code 57 = .ok (.iconst 2, 1) := by decide +kernel
theorem d_Desk_provedPart_58 : decode prog_1_method_39_code 58 = .ok (.if_icmp .ne 6, 3) := by decide +kernel
theorem d_Desk_provedPart_61 : decode prog_1_method_39_code 61 = .ok (.aload 4, 2) := by decide +kernel
theorem d_Desk_provedPart_63 : decode prog_1_method_39_code 63 = .ok (.areturn, 1) := by decide +kernel
theorem g_Desk_provedPart_2 {X : cd_E} {kc ks : Nat} {h : cd_H} {Q : Option Value → cd_H → Prop} {v1 : Nat} {v2 : Int32} {v3 : Int32} (F : cc_ok h) (H : cd_W X m_AL_size 0 0 0 [some (.ref 80)] [] h (fun r1 h2 => ∃ x3 : Int32, r1 = some (.int x3) ∧ ((cc_ok h2) ∧ ((((x3 ≤ v3) → (Q (some (.null)) h2)) ∧ ((¬ x3 ≤ v3) → (cd_W X m_AL_get 0 0 0 [some (.ref 80), some (.int v3)] [] h2 (fun r6 h7 => ∃ o8 : Option Nat, r6 = some (va_rf o8) ∧ ((cc_ok h7) ∧ ((∃ b10 : Nat, o8 = some b10 ∧ ((cd_k h7 b10 = some (.inl 2)) ∧ ((cd_apart (cd_r h7 b10 1) (some v1)) ∧ ((((¬ (cd_r h7 b10 1) = (some v1)) → (cd_W X m_Desk_provedPart kc ks 2 [some (.ref 64), some (.ref v1), some (.int v2), some (.int (v3 + 1)), none] [] h7 Q)) ∧ (((cd_r h7 b10 1) = (some v1)) → ((∃ b15 : Nat, (cd_r h7 b10 2) = some b15 ∧ (cd_W X m_Not_spells 0 0 0 [some (.ref 71), some (.int v2), some (.ref b15), none, none] [] h7 (fun r17 h18 => ∃ x19 : Int32, r17 = some (.int x19) ∧ ((cc_ok h18) ∧ ((((x19 = 0) → (cd_W X m_Desk_provedPart kc ks 2 [some (.ref 64), some (.ref v1), some (.int v2), some (.int (v3 + 1)), none] [] h18 Q)) ∧ ((¬ x19 = 0) → (cd_W X m_Desk_authorizationState 0 0 0 [some (.ref 64), some (.ref b10)] [] h18 (fun r22 h23 => ∃ x24 : Int32, r22 = some (.int x24) ∧ ((cc_ok h23) ∧ ((((¬ x24 = 2) → (cd_W X m_Desk_provedPart kc ks 2 [some (.ref 64), some (.ref v1), some (.int v2), some (.int (v3 + 1)), none] [] h23 Q)) ∧ ((x24 = 2) → (Q (some (.ref b10)) h23))))))))))))))))))))))))))))))) : cd_W X m_Desk_provedPart kc ks 2 [some (.ref 64), some (.ref v1), some (.int v2), some (.int v3), none] [] h Q := by
  refine cd_iload_n (i := 3) d_Desk_provedPart_2 rfl rfl ?_
  refine cd_aload_n (i := 0) (v := .ref 64) d_Desk_provedPart_3 rfl rfl (cd_isr_ref _) ?_
  refine cd_get (v := .ref 80) d_Desk_provedPart_4 fl_Desk_78 (cc_k64 F) (congrArg va_rf (cc_r64_10 F)) ?_
  refine cd_callV (kc := kc) (ks := ks) (kc' := 0) (ks' := 0) (As := []) (S := [.int v3]) d_Desk_provedPart_7 ca_Desk_provedPart_135 (cc_k80 F) rfl (Nat.le_of_ble_eq_true rfl) (Nat.le_of_ble_eq_true rfl) ?_
  refine cd_W.mono (fun r1 h2 H => ?_) H
  obtain ⟨x3, rfl, H⟩ := H
  obtain ⟨F4, H⟩ := H
  show cd_W X m_Desk_provedPart kc ks 10 [some (.ref 64), some (.ref v1), some (.int v2), some (.int v3), none] [.int x3, .int v3] h2 Q
  refine cd_icmp_ge (tgt := 70) d_Desk_provedPart_10 (by decide) (fun t5 => ?_) (fun t5 => ?_)
  · replace H := H.1 t5
    refine cd_null d_Desk_provedPart_70 ?_
    exact cd_aret d_Desk_provedPart_71 rfl (Or.inl ⟨_, rfl⟩) cd_isr_null H
  · replace H := H.2 t5
    refine cd_aload_n (i := 0) (v := .ref 64) d_Desk_provedPart_13 rfl rfl (cd_isr_ref _) ?_
    refine cd_get (v := .ref 80) d_Desk_provedPart_14 fl_Desk_78 (cc_k64 F4) (congrArg va_rf (cc_r64_10 F4)) ?_
    refine cd_iload_n (i := 3) d_Desk_provedPart_17 rfl rfl ?_
    refine cd_callV (kc := kc) (ks := ks) (kc' := 0) (ks' := 0) (As := [.int v3]) (S := []) d_Desk_provedPart_18 ca_Desk_provedPart_138 (cc_k80 F4) rfl (Nat.le_of_ble_eq_true rfl) (Nat.le_of_ble_eq_true rfl) ?_
    refine cd_W.mono (fun r6 h7 H => ?_) H
    obtain ⟨o8, rfl, H⟩ := H
    obtain ⟨F9, H⟩ := H
    show cd_W X m_Desk_provedPart kc ks 21 [some (.ref 64), some (.ref v1), some (.int v2), some (.int v3), none] [va_rf o8] h7 Q
    obtain ⟨b10, e11, H⟩ := H
    rw [cd_rfs e11]
    obtain ⟨c12, H⟩ := H
    refine cd_cast d_Desk_provedPart_21 rfl ⟨kw_2_151, kw_3_208⟩ c12 ?_
    refine cd_astore (i := 4) d_Desk_provedPart_24 (by decide) (cd_isr_ref _) ?_
    show cd_W X m_Desk_provedPart kc ks 26 [some (.ref 64), some (.ref v1), some (.int v2), some (.int v3), some (.ref b10)] [] h7 Q
    refine cd_aload (i := 4) (v := .ref b10) d_Desk_provedPart_26 rfl (cd_isr_ref _) ?_
    refine cd_get (v := va_rf (cd_r h7 b10 1)) d_Desk_provedPart_28 fl_Desk_246 c12 rfl ?_
    refine cd_aload_n (i := 1) (v := .ref v1) d_Desk_provedPart_31 rfl rfl (cd_isr_ref _) ?_
    obtain ⟨c13, H⟩ := H
    refine cd_acmp_ne (rx := (cd_r h7 b10 1)) (ry := (some v1)) (tgt := 64) d_Desk_provedPart_32 (by decide) c13 (fun t14 => ?_) (fun t14 => ?_)
    · replace H := H.1 t14
      refine cd_iinc (i := 3) (v := (v3 + 1)) d_Desk_provedPart_64 rfl (cd_inc1 _) (by decide) ?_
      show cd_W X m_Desk_provedPart kc ks 67 [some (.ref 64), some (.ref v1), some (.int v2), some (.int (v3 + 1)), some (.ref b10)] [] h7 Q
      refine cd_goto (tgt := 2) d_Desk_provedPart_67 (by decide) ?_
      refine cd_W.drop (i := 4) ?_
      exact H
    · replace H := H.2 t14
      refine cd_aload_n (i := 0) (v := .ref 64) d_Desk_provedPart_35 rfl rfl (cd_isr_ref _) ?_
      refine cd_get (v := .ref 71) d_Desk_provedPart_36 fl_Desk_37 (cc_k64 F9) (congrArg va_rf (cc_r64_3 F9)) ?_
      refine cd_iload_n (i := 2) d_Desk_provedPart_39 rfl rfl ?_
      refine cd_aload (i := 4) (v := .ref b10) d_Desk_provedPart_40 rfl (cd_isr_ref _) ?_
      refine cd_get (v := va_rf (cd_r h7 b10 2)) d_Desk_provedPart_42 fl_Desk_363 c12 rfl ?_
      obtain ⟨b15, e16, H⟩ := H
      rw [cd_rfs e16]
      refine cd_callV (kc := kc) (ks := ks) (kc' := 0) (ks' := 0) (As := [.int v2, .ref b15]) (S := []) d_Desk_provedPart_45 ca_Desk_provedPart_294 (cc_k71 F9) rfl (Nat.le_of_ble_eq_true rfl) (Nat.le_of_ble_eq_true rfl) ?_
      refine cd_W.mono (fun r17 h18 H => ?_) H
      obtain ⟨x19, rfl, H⟩ := H
      obtain ⟨F20, H⟩ := H
      show cd_W X m_Desk_provedPart kc ks 48 [some (.ref 64), some (.ref v1), some (.int v2), some (.int v3), some (.ref b10)] [.int x19] h18 Q
      refine cd_if_eq (tgt := 64) d_Desk_provedPart_48 (by decide) (fun t21 => ?_) (fun t21 => ?_)
      · replace H := H.1 t21
        refine cd_iinc (i := 3) (v := (v3 + 1)) d_Desk_provedPart_64 rfl (cd_inc1 _) (by decide) ?_
        show cd_W X m_Desk_provedPart kc ks 67 [some (.ref 64), some (.ref v1), some (.int v2), some (.int (v3 + 1)), some (.ref b10)] [] h18 Q
        refine cd_goto (tgt := 2) d_Desk_provedPart_67 (by decide) ?_
        refine cd_W.drop (i := 4) ?_
        exact H
      · replace H := H.2 t21
        refine cd_aload_n (i := 0) (v := .ref 64) d_Desk_provedPart_51 rfl rfl (cd_isr_ref _) ?_
        refine cd_aload (i := 4) (v := .ref b10) d_Desk_provedPart_52 rfl (cd_isr_ref _) ?_
        refine cd_callV (kc := kc) (ks := ks) (kc' := 0) (ks' := 0) (As := [.ref b10]) (S := []) d_Desk_provedPart_54 ca_Desk_provedPart_142 (cc_k64 F20) rfl (Nat.le_of_ble_eq_true rfl) (Nat.le_of_ble_eq_true rfl) ?_
        refine cd_W.mono (fun r22 h23 H => ?_) H
        obtain ⟨x24, rfl, H⟩ := H
        obtain ⟨F25, H⟩ := H
        show cd_W X m_Desk_provedPart kc ks 57 [some (.ref 64), some (.ref v1), some (.int v2), some (.int v3), some (.ref b10)] [.int x24] h23 Q
        refine cd_iconst (v := 2) d_Desk_provedPart_57 (by decide) ?_
        refine cd_icmp_ne (tgt := 64) d_Desk_provedPart_58 (by decide) (fun t26 => ?_) (fun t26 => ?_)
        · replace H := H.1 t26
          refine cd_iinc (i := 3) (v := (v3 + 1)) d_Desk_provedPart_64 rfl (cd_inc1 _) (by decide) ?_
          show cd_W X m_Desk_provedPart kc ks 67 [some (.ref 64), some (.ref v1), some (.int v2), some (.int (v3 + 1)), some (.ref b10)] [] h23 Q
          refine cd_goto (tgt := 2) d_Desk_provedPart_67 (by decide) ?_
          refine cd_W.drop (i := 4) ?_
          exact H
        · replace H := H.2 t26
          refine cd_aload (i := 4) (v := .ref b10) d_Desk_provedPart_61 rfl (cd_isr_ref _) ?_
          exact cd_aret d_Desk_provedPart_63 rfl (Or.inl ⟨_, rfl⟩) (cd_isr_ref _) H

abbrev m_Desk_placeOf : cd_M := (⟨"CertificateDesk", "placeOf", "(Ljava/lang/String;)I"⟩, prog_1_method_41_code, 3, some .int, 11, 239)
theorem d_Desk_placeOf_0 : decode prog_1_method_41_code 0 = .ok (.iconst 0, 1) := by decide +kernel
theorem d_Desk_placeOf_1 : decode prog_1_method_41_code 1 = .ok (.istore_n 2, 1) := by decide +kernel
theorem g_Desk_placeOf {X : cd_E} {kc ks : Nat} {h : cd_H} {Q : Option Value → cd_H → Prop} {p1 : Nat} (F : cc_ok h) (H : cd_W X m_Desk_placeOf kc ks 2 [some (.ref 64), some (.ref p1), some (.int 0)] [] h Q) : cd_W X m_Desk_placeOf kc ks 0 [some (.ref 64), some (.ref p1), none] [] h Q := by
  refine cd_iconst (v := 0) d_Desk_placeOf_0 (by decide) ?_
  refine cd_istore_n (i := 2) d_Desk_placeOf_1 rfl (by decide) ?_
  show cd_W X m_Desk_placeOf kc ks 2 [some (.ref 64), some (.ref p1), some (.int 0)] [] h Q
  exact H

theorem d_Desk_placeOf_2 : decode prog_1_method_41_code 2 = .ok (.iload_n 2, 1) := by decide +kernel
theorem d_Desk_placeOf_3 : decode prog_1_method_41_code 3 = .ok (.aload_n 0, 1) := by decide +kernel
theorem d_Desk_placeOf_4 : decode prog_1_method_41_code 4 = .ok (.getfield 78, 3) := by decide +kernel
theorem d_Desk_placeOf_7 : decode prog_1_method_41_code 7 = .ok (.invokevirtual 135, 3) := by decide +kernel
theorem ca_Desk_placeOf_135 {X : cd_E} : cd_CV X m_Desk_placeOf m_AL_size 135 0 12 := ⟨⟨by decide, kw_2_11, kw_1_9, ⟨by decide, by decide, by decide +kernel⟩, by decide, by decide⟩, ⟨_, rfl, rfl⟩, kw_2_9, kw_2_10, (Or.inl kw_2_8)⟩
theorem d_Desk_placeOf_10 : decode prog_1_method_41_code 10 = .ok (.if_icmp .ge 32, 3) := by decide +kernel
theorem d_Desk_placeOf_42 : decode prog_1_method_41_code 42 = .ok (.aload_n 0, 1) := by decide +kernel
theorem d_Desk_placeOf_43 : decode prog_1_method_41_code 43 = .ok (.getfield 78, 3) := by decide +kernel
theorem d_Desk_placeOf_46 : decode prog_1_method_41_code 46 = .ok (.invokevirtual 135, 3) := by decide +kernel
theorem d_Desk_placeOf_49 : decode prog_1_method_41_code 49 = .ok (.ireturn, 1) := by decide +kernel
theorem d_Desk_placeOf_13 : decode prog_1_method_41_code 13 = .ok (.aload_n 0, 1) := by decide +kernel
theorem d_Desk_placeOf_14 : decode prog_1_method_41_code 14 = .ok (.getfield 78, 3) := by decide +kernel
theorem d_Desk_placeOf_17 : decode prog_1_method_41_code 17 = .ok (.iload_n 2, 1) := by decide +kernel
theorem d_Desk_placeOf_18 : decode prog_1_method_41_code 18 = .ok (.invokevirtual 138, 3) := by decide +kernel
theorem ca_Desk_placeOf_138 {X : cd_E} : cd_CV X m_Desk_placeOf m_AL_get 138 1 12 := ⟨⟨by decide, kw_2_15, kw_1_9, ⟨by decide, by decide, by decide +kernel⟩, by decide, by decide⟩, ⟨_, rfl, rfl⟩, kw_2_13, kw_2_14, (Or.inl kw_2_12)⟩
theorem d_Desk_placeOf_21 : decode prog_1_method_41_code 21 = .ok (.checkcast 130, 3) := by decide +kernel
theorem d_Desk_placeOf_24 : decode prog_1_method_41_code 24 = .ok (.getfield 363, 3) := by decide +kernel
theorem d_Desk_placeOf_27 : decode prog_1_method_41_code 27 = .ok (.aload_n 1, 1) := by decide +kernel
theorem d_Desk_placeOf_28 : decode prog_1_method_41_code 28 = .ok (.invokevirtual 381, 3) := by decide +kernel
abbrev m_Str_equals : cd_M := (⟨"java/lang/String", "equals", "(Ljava/lang/Object;)Z"⟩, prog_21_method_66_code, 3, some .boolean, 2, 42)
theorem kw_3_213 : (Jvm.Cond.methodLink "CertificateDesk" (381 : Nat) ({ cls := "java/lang/String", name := "equals", desc := "(Ljava/lang/Object;)Z" } : Jvm.MethodName)) ∈ cd_tbl := tb_3 (List.mem_of_getElem? (i := 213) (by decide +kernel)) (by decide)
theorem kw_3_216 : (Jvm.Cond.code ({ cls := "java/lang/String", name := "equals", desc := "(Ljava/lang/Object;)Z" } : Jvm.MethodName) prog_21_method_66_code (3 : Nat) (Option.some Jvm.ClassFile.FieldType.boolean)) ∈ cd_tbl := tb_3 (List.mem_of_getElem? (i := 216) (by decide +kernel)) (by decide)
theorem kw_3_214 : (Jvm.Cond.instanceMethod ({ cls := "java/lang/String", name := "equals", desc := "(Ljava/lang/Object;)Z" } : Jvm.MethodName)) ∈ cd_tbl := tb_3 (List.mem_of_getElem? (i := 214) (by decide +kernel)) (by decide)
theorem kw_3_215 : (Jvm.Cond.selects "java/lang/String" ({ cls := "java/lang/String", name := "equals", desc := "(Ljava/lang/Object;)Z" } : Jvm.MethodName) ({ cls := "java/lang/String", name := "equals", desc := "(Ljava/lang/Object;)Z" } : Jvm.MethodName)) ∈ cd_tbl := tb_3 (List.mem_of_getElem? (i := 215) (by decide +kernel)) (by decide)
theorem ca_Desk_placeOf_381 {X : cd_E} : cd_CV X m_Desk_placeOf m_Str_equals 381 1 13 := ⟨⟨by decide, kw_3_216, kw_1_14, ⟨by decide, by decide, by decide +kernel⟩, by decide, by decide⟩, ⟨_, rfl, rfl⟩, kw_3_214, kw_3_215, (Or.inl kw_3_213)⟩
theorem d_Desk_placeOf_31 : decode prog_1_method_41_code 31 = .ok (.ifCond .eq 5, 3) := by decide +kernel
theorem d_Desk_placeOf_36 : decode prog_1_method_41_code 36 = .ok (.iinc 2 1, 3) := by decide +kernel
theorem d_Desk_placeOf_39 : decode prog_1_method_41_code 39 = .ok (.goto (-37), 3) := by decide +kernel
theorem d_Desk_placeOf_34 : decode prog_1_method_41_code 34 = .ok (.iload_n 2, 1) := by decide +kernel
theorem d_Desk_placeOf_35 : decode prog_1_method_41_code 35 = .ok (.ireturn, 1) := by decide +kernel
theorem g_Desk_placeOf_2 {X : cd_E} {kc ks : Nat} {h : cd_H} {Q : Option Value → cd_H → Prop} {v1 : Nat} {v2 : Int32} (F : cc_ok h) (H : cd_W X m_AL_size 0 0 0 [some (.ref 80)] [] h (fun r1 h2 => ∃ x3 : Int32, r1 = some (.int x3) ∧ ((cc_ok h2) ∧ ((((x3 ≤ v2) → (cd_W X m_AL_size 0 0 0 [some (.ref 80)] [] h2 (fun r6 h7 => ∃ x8 : Int32, r6 = some (.int x8) ∧ ((cc_ok h7) ∧ (Q (some (.int x8)) h7))))) ∧ ((¬ x3 ≤ v2) → (cd_W X m_AL_get 0 0 0 [some (.ref 80), some (.int v2)] [] h2 (fun r10 h11 => ∃ o12 : Option Nat, r10 = some (va_rf o12) ∧ ((cc_ok h11) ∧ ((∃ b14 : Nat, o12 = some b14 ∧ ((cd_k h11 b14 = some (.inl 2)) ∧ ((∃ b17 : Nat, (cd_r h11 b14 2) = some b17 ∧ ((cd_k h11 b17 = some (.inl 13)) ∧ (cd_W X m_Str_equals 0 0 0 [some (.ref b17), some (.ref v1), none] [] h11 (fun r20 h21 => ∃ x22 : Int32, r20 = some (.int x22) ∧ ((cc_ok h21) ∧ ((((x22 = 0) → (cd_W X m_Desk_placeOf kc ks 2 [some (.ref 64), some (.ref v1), some (.int (v2 + 1))] [] h21 Q)) ∧ ((¬ x22 = 0) → (Q (some (.int v2)) h21)))))))))))))))))))))) : cd_W X m_Desk_placeOf kc ks 2 [some (.ref 64), some (.ref v1), some (.int v2)] [] h Q := by
  refine cd_iload_n (i := 2) d_Desk_placeOf_2 rfl rfl ?_
  refine cd_aload_n (i := 0) (v := .ref 64) d_Desk_placeOf_3 rfl rfl (cd_isr_ref _) ?_
  refine cd_get (v := .ref 80) d_Desk_placeOf_4 fl_Desk_78 (cc_k64 F) (congrArg va_rf (cc_r64_10 F)) ?_
  refine cd_callV (kc := kc) (ks := ks) (kc' := 0) (ks' := 0) (As := []) (S := [.int v2]) d_Desk_placeOf_7 ca_Desk_placeOf_135 (cc_k80 F) rfl (Nat.le_of_ble_eq_true rfl) (Nat.le_of_ble_eq_true rfl) ?_
  refine cd_W.mono (fun r1 h2 H => ?_) H
  obtain ⟨x3, rfl, H⟩ := H
  obtain ⟨F4, H⟩ := H
  show cd_W X m_Desk_placeOf kc ks 10 [some (.ref 64), some (.ref v1), some (.int v2)] [.int x3, .int v2] h2 Q
  refine cd_icmp_ge (tgt := 42) d_Desk_placeOf_10 (by decide) (fun t5 => ?_) (fun t5 => ?_)
  · replace H := H.1 t5
    refine cd_aload_n (i := 0) (v := .ref 64) d_Desk_placeOf_42 rfl rfl (cd_isr_ref _) ?_
    refine cd_get (v := .ref 80) d_Desk_placeOf_43 fl_Desk_78 (cc_k64 F4) (congrArg va_rf (cc_r64_10 F4)) ?_
    refine cd_callV (kc := kc) (ks := ks) (kc' := 0) (ks' := 0) (As := []) (S := []) d_Desk_placeOf_46 ca_Desk_placeOf_135 (cc_k80 F4) rfl (Nat.le_of_ble_eq_true rfl) (Nat.le_of_ble_eq_true rfl) ?_
    refine cd_W.mono (fun r6 h7 H => ?_) H
    obtain ⟨x8, rfl, H⟩ := H
    obtain ⟨F9, H⟩ := H
    show cd_W X m_Desk_placeOf kc ks 49 [some (.ref 64), some (.ref v1), some (.int v2)] [.int x8] h7 Q
    exact cd_iret d_Desk_placeOf_49 rfl rfl H
  · replace H := H.2 t5
    refine cd_aload_n (i := 0) (v := .ref 64) d_Desk_placeOf_13 rfl rfl (cd_isr_ref _) ?_
    refine cd_get (v := .ref 80) d_Desk_placeOf_14 fl_Desk_78 (cc_k64 F4) (congrArg va_rf (cc_r64_10 F4)) ?_
    refine cd_iload_n (i := 2) d_Desk_placeOf_17 rfl rfl ?_
    refine cd_callV (kc := kc) (ks := ks) (kc' := 0) (ks' := 0) (As := [.int v2]) (S := []) d_Desk_placeOf_18 ca_Desk_placeOf_138 (cc_k80 F4) rfl (Nat.le_of_ble_eq_true rfl) (Nat.le_of_ble_eq_true rfl) ?_
    refine cd_W.mono (fun r10 h11 H => ?_) H
    obtain ⟨o12, rfl, H⟩ := H
    obtain ⟨F13, H⟩ := H
    show cd_W X m_Desk_placeOf kc ks 21 [some (.ref 64), some (.ref v1), some (.int v2)] [va_rf o12] h11 Q
    obtain ⟨b14, e15, H⟩ := H
    rw [cd_rfs e15]
    obtain ⟨c16, H⟩ := H
    refine cd_cast d_Desk_placeOf_21 rfl ⟨kw_2_151, kw_3_208⟩ c16 ?_
    refine cd_get (v := va_rf (cd_r h11 b14 2)) d_Desk_placeOf_24 fl_Desk_363 c16 rfl ?_
    refine cd_aload_n (i := 1) (v := .ref v1) d_Desk_placeOf_27 rfl rfl (cd_isr_ref _) ?_
    obtain ⟨b17, e18, H⟩ := H
    rw [cd_rfs e18]
    obtain ⟨c19, H⟩ := H
    refine cd_callV (kc := kc) (ks := ks) (kc' := 0) (ks' := 0) (As := [.ref v1]) (S := []) d_Desk_placeOf_28 ca_Desk_placeOf_381 c19 rfl (Nat.le_of_ble_eq_true rfl) (Nat.le_of_ble_eq_true rfl) ?_
    refine cd_W.mono (fun r20 h21 H => ?_) H
    obtain ⟨x22, rfl, H⟩ := H
    obtain ⟨F23, H⟩ := H
    show cd_W X m_Desk_placeOf kc ks 31 [some (.ref 64), some (.ref v1), some (.int v2)] [.int x22] h21 Q
    refine cd_if_eq (tgt := 36) d_Desk_placeOf_31 (by decide) (fun t24 => ?_) (fun t24 => ?_)
    · replace H := H.1 t24
      refine cd_iinc (i := 2) (v := (v2 + 1)) d_Desk_placeOf_36 rfl (cd_inc1 _) (by decide) ?_
      show cd_W X m_Desk_placeOf kc ks 39 [some (.ref 64), some (.ref v1), some (.int (v2 + 1))] [] h21 Q
      refine cd_goto (tgt := 2) d_Desk_placeOf_39 (by decide) ?_
      exact H
    · replace H := H.2 t24
      refine cd_iload_n (i := 2) d_Desk_placeOf_34 rfl rfl ?_
      exact cd_iret d_Desk_placeOf_35 rfl rfl H

abbrev m_Desk_makeOrder : cd_M := (⟨"CertificateDesk", "makeOrder", "(LCertificateDesk$Account;I)LCertificateDesk$Order;"⟩, prog_1_method_40_code, 7, some (.object "CertificateDesk$Order"), 29, 639)
theorem d_Desk_makeOrder_0 : decode prog_1_method_40_code 0 = .ok (.new 199, 3) := by decide +kernel
theorem nc_Desk_199 : cd_NC "CertificateDesk" 199 8 4 := cd_NC.of cl_8 rfl kw_3_32
theorem d_Desk_makeOrder_3 : decode prog_1_method_40_code 3 = .ok (.dup, 1) := by decide +kernel
theorem d_Desk_makeOrder_4 : decode prog_1_method_40_code 4 = .ok (.aload_n 1, 1) := by decide +kernel
theorem d_Desk_makeOrder_5 : decode prog_1_method_40_code 5 = .ok (.aload_n 0, 1) := by decide +kernel
theorem d_Desk_makeOrder_6 : decode prog_1_method_40_code 6 = .ok (.getfield 84, 3) := by decide +kernel
theorem d_Desk_makeOrder_9 : decode prog_1_method_40_code 9 = .ok (.invokespecial 367, 3) := by decide +kernel
theorem kw_3_34 : (Jvm.Cond.methodLink "CertificateDesk" (367 : Nat) ({ cls := "CertificateDesk$Order", name := "<init>", desc := "(LCertificateDesk$Account;I)V" } : Jvm.MethodName)) ∈ cd_tbl := tb_3 (List.mem_of_getElem? (i := 34) (by decide +kernel)) (by decide)
theorem kw_3_36 : (Jvm.Cond.code ({ cls := "CertificateDesk$Order", name := "<init>", desc := "(LCertificateDesk$Account;I)V" } : Jvm.MethodName) prog_11_method_1_code (3 : Nat) (Option.none : Option Jvm.ClassFile.FieldType)) ∈ cd_tbl := tb_3 (List.mem_of_getElem? (i := 36) (by decide +kernel)) (by decide)
theorem kw_3_35 : (Jvm.Cond.instanceMethod ({ cls := "CertificateDesk$Order", name := "<init>", desc := "(LCertificateDesk$Account;I)V" } : Jvm.MethodName)) ∈ cd_tbl := tb_3 (List.mem_of_getElem? (i := 35) (by decide +kernel)) (by decide)
theorem ca_Desk_makeOrder_367 {X : cd_E} : cd_CI X m_Desk_makeOrder m_Ord_init 367 2 := ⟨⟨by decide, kw_3_36, kw_1_23, ⟨by decide, by decide, by decide +kernel⟩, by decide, by decide⟩, rfl, rfl, kw_3_35, (Or.inl kw_3_34)⟩
theorem d_Desk_makeOrder_12 : decode prog_1_method_40_code 12 = .ok (.astore_n 3, 1) := by decide +kernel
theorem d_Desk_makeOrder_13 : decode prog_1_method_40_code 13 = .ok (.iconst 0, 1) := by decide +kernel
theorem d_Desk_makeOrder_14 : decode prog_1_method_40_code 14 = .ok (.istore 4, 2) := by decide +kernel
theorem g_Desk_makeOrder {X : cd_E} {kc ks : Nat} {h : cd_H} {Q : Option Value → cd_H → Prop} {p1 : Nat} {p2 : Int32} (F : cc_ok h) (H : cd_W X m_Ord_init 1 3 0 [some (.ref (cd_n h)), some (.ref p1), some (.int (cd_i (cd_new h (.inl 8)) 64 12))] [] (cd_new h (.inl 8)) (fun r1 h2 => (r1 = none) ∧ ((cc_ok h2) ∧ (cd_W X m_Desk_makeOrder kc ks 16 [some (.ref 64), some (.ref p1), some (.int p2), some (.ref (cd_n h)), some (.int 0), none, none] [] h2 Q)))) : cd_W X m_Desk_makeOrder (kc + 2) (ks + 7) 0 [some (.ref 64), some (.ref p1), some (.int p2), none, none, none, none] [] h Q := by
  refine cd_newo (kc := (kc + 1)) (ks := (ks + 3)) d_Desk_makeOrder_0 nc_Desk_199 ?_
  refine cd_dup d_Desk_makeOrder_3 rfl ?_
  refine cd_aload_n (i := 1) (v := .ref p1) d_Desk_makeOrder_4 rfl rfl (cd_isr_ref _) ?_
  refine cd_aload_n (i := 0) (v := .ref 64) d_Desk_makeOrder_5 rfl rfl (cd_isr_ref _) ?_
  refine cd_get (v := .int (cd_i (cd_new h (.inl 8)) 64 12)) d_Desk_makeOrder_6 fl_Desk_84 (cc_k64 F) rfl ?_
  refine cd_callI (kc := (kc + 0)) (ks := (ks + 0)) (kc' := 1) (ks' := 3) (As := [.ref p1, .int (cd_i (cd_new h (.inl 8)) 64 12)]) (S := [.ref (cd_n h)]) d_Desk_makeOrder_9 ca_Desk_makeOrder_367 rfl (Nat.le_of_ble_eq_true rfl) (Nat.le_of_ble_eq_true rfl) ?_
  refine cd_W.mono (fun r1 h2 H => ?_) H
  obtain ⟨rfl, H⟩ := H
  obtain ⟨F3, H⟩ := H
  show cd_W X m_Desk_makeOrder (kc + 0) (ks + 0) 12 [some (.ref 64), some (.ref p1), some (.int p2), none, none, none, none] [.ref (cd_n h)] h2 Q
  refine cd_astore_n (i := 3) d_Desk_makeOrder_12 rfl (by decide) (cd_isr_ref _) ?_
  show cd_W X m_Desk_makeOrder (kc + 0) (ks + 0) 13 [some (.ref 64), some (.ref p1), some (.int p2), some (.ref (cd_n h)), none, none, none] [] h2 Q
  refine cd_iconst (v := 0) d_Desk_makeOrder_13 (by decide) ?_
  refine cd_istore (i := 4) d_Desk_makeOrder_14 (by decide) ?_
  show cd_W X m_Desk_makeOrder (kc + 0) (ks + 0) 16 [some (.ref 64), some (.ref p1), some (.int p2), some (.ref (cd_n h)), some (.int 0), none, none] [] h2 Q
  refine cd_W.budget (kc := kc) (ks := ks) (by omega) (by omega) ?_
  exact H

theorem d_Desk_makeOrder_16 : decode prog_1_method_40_code 16 = .ok (.iload 4, 2) := by decide +kernel
theorem d_Desk_makeOrder_18 : decode prog_1_method_40_code 18 = .ok (.iload_n 2, 1) := by decide +kernel
theorem d_Desk_makeOrder_19 : decode prog_1_method_40_code 19 = .ok (.if_icmp .ge 103, 3) := by decide +kernel
theorem d_Desk_makeOrder_122 : decode prog_1_method_40_code 122 = .ok (.aload_n 3, 1) := by decide +kernel
theorem d_Desk_makeOrder_123 : decode prog_1_method_40_code 123 = .ok (.areturn, 1) := by decide +kernel
theorem d_Desk_makeOrder_22 : decode prog_1_method_40_code 22 = .ok (.iload 4, 2) := by decide +kernel
theorem d_Desk_makeOrder_24 : decode prog_1_method_40_code 24 = .ok (.aload_n 0, 1) := by decide +kernel
theorem d_Desk_makeOrder_25 : decode prog_1_method_40_code 25 = .ok (.getfield 41, 3) := by decide +kernel
theorem d_Desk_makeOrder_28 : decode prog_1_method_40_code 28 = .ok (.arraylength, 1) := by decide +kernel
theorem d_Desk_makeOrder_29 : decode prog_1_method_40_code 29 = .ok (.if_icmp .ge 93, 3) := by decide +kernel
theorem d_Desk_makeOrder_32 : decode prog_1_method_40_code 32 = .ok (.aload_n 0, 1) := by decide +kernel
theorem d_Desk_makeOrder_33 : decode prog_1_method_40_code 33 = .ok (.aload_n 1, 1) := by decide +kernel
theorem d_Desk_makeOrder_34 : decode prog_1_method_40_code 34 = .ok (.aload_n 0, 1) := by decide +kernel
theorem d_Desk_makeOrder_35 : decode prog_1_method_40_code 35 = .ok (.getfield 41, 3) := by decide +kernel
theorem d_Desk_makeOrder_38 : decode prog_1_method_40_code 38 = .ok (.iload 4, 2) := by decide +kernel
theorem d_Desk_makeOrder_40 : decode prog_1_method_40_code 40 = .ok (.iaload, 1) := by decide +kernel
theorem d_Desk_makeOrder_41 : decode prog_1_method_40_code 41 = .ok (.invokevirtual 346, 3) := by decide +kernel
theorem kw_3_19 : (Jvm.Cond.methodLink "CertificateDesk" (346 : Nat) ({ cls := "CertificateDesk", name := "provedPart", desc := "(LCertificateDesk$Account;I)LCertificateDesk$Authorization;" } : Jvm.MethodName)) ∈ cd_tbl := tb_3 (List.mem_of_getElem? (i := 19) (by decide +kernel)) (by decide)
theorem kw_3_22 : (Jvm.Cond.code ({ cls := "CertificateDesk", name := "provedPart", desc := "(LCertificateDesk$Account;I)LCertificateDesk$Authorization;" } : Jvm.MethodName) prog_1_method_39_code (5 : Nat) (Option.some (Jvm.ClassFile.FieldType.object "CertificateDesk$Authorization"))) ∈ cd_tbl := tb_3 (List.mem_of_getElem? (i := 22) (by decide +kernel)) (by decide)
theorem kw_3_21 : (Jvm.Cond.instanceMethod ({ cls := "CertificateDesk", name := "provedPart", desc := "(LCertificateDesk$Account;I)LCertificateDesk$Authorization;" } : Jvm.MethodName)) ∈ cd_tbl := tb_3 (List.mem_of_getElem? (i := 21) (by decide +kernel)) (by decide)
theorem kp_19 : Cond.selects "CertificateDesk" ⟨"CertificateDesk", "provedPart", "(LCertificateDesk$Account;I)LCertificateDesk$Authorization;"⟩ ⟨"CertificateDesk", "provedPart", "(LCertificateDesk$Account;I)LCertificateDesk$Authorization;"⟩ ∈ cd_tbl := cd_sel (List.mem_of_getElem? (i := 19) (by decide +kernel)) (by decide)
theorem ca_Desk_makeOrder_346 {X : cd_E} : cd_CV X m_Desk_makeOrder m_Desk_provedPart 346 2 0 := ⟨⟨by decide, kw_3_22, kw_1_1, ⟨by decide, by decide, by decide +kernel⟩, by decide, by decide⟩, ⟨_, rfl, rfl⟩, kw_3_21, kp_19, (Or.inl kw_3_19)⟩
theorem d_Desk_makeOrder_44 : decode prog_1_method_40_code 44 = .ok (.astore 5, 2) := by decide +kernel
theorem d_Desk_makeOrder_46 : decode prog_1_method_40_code 46 = .ok (.aload 5, 2) := by decide +kernel
theorem d_Desk_makeOrder_48 : decode prog_1_method_40_code 48 = .ok (.ifnonnull 58, 3) := by decide +kernel
theorem d_Desk_makeOrder_106 : decode prog_1_method_40_code 106 = .ok (.aload_n 3, 1) := by decide +kernel
theorem d_Desk_makeOrder_107 : decode prog_1_method_40_code 107 = .ok (.getfield 198, 3) := by decide +kernel
theorem d_Desk_makeOrder_110 : decode prog_1_method_40_code 110 = .ok (.aload 5, 2) := by decide +kernel
theorem d_Desk_makeOrder_112 : decode prog_1_method_40_code 112 = .ok (.invokevirtual 330, 3) := by decide +kernel
abbrev m_AL_add_LObjectZ : cd_M := (⟨"java/util/ArrayList", "add", "(Ljava/lang/Object;)Z"⟩, prog_28_method_25_code, 2, some .boolean, 18, 400)
theorem kw_2_167 : (Jvm.Cond.methodLink "CertificateDesk" (330 : Nat) ({ cls := "java/util/ArrayList", name := "add", desc := "(Ljava/lang/Object;)Z" } : Jvm.MethodName)) ∈ cd_tbl := tb_2 (List.mem_of_getElem? (i := 167) (by decide +kernel)) (by decide)
theorem kw_2_170 : (Jvm.Cond.code ({ cls := "java/util/ArrayList", name := "add", desc := "(Ljava/lang/Object;)Z" } : Jvm.MethodName) prog_28_method_25_code (2 : Nat) (Option.some Jvm.ClassFile.FieldType.boolean)) ∈ cd_tbl := tb_2 (List.mem_of_getElem? (i := 170) (by decide +kernel)) (by decide)
theorem kw_2_168 : (Jvm.Cond.instanceMethod ({ cls := "java/util/ArrayList", name := "add", desc := "(Ljava/lang/Object;)Z" } : Jvm.MethodName)) ∈ cd_tbl := tb_2 (List.mem_of_getElem? (i := 168) (by decide +kernel)) (by decide)
theorem kw_2_169 : (Jvm.Cond.selects "java/util/ArrayList" ({ cls := "java/util/ArrayList", name := "add", desc := "(Ljava/lang/Object;)Z" } : Jvm.MethodName) ({ cls := "java/util/ArrayList", name := "add", desc := "(Ljava/lang/Object;)Z" } : Jvm.MethodName)) ∈ cd_tbl := tb_2 (List.mem_of_getElem? (i := 169) (by decide +kernel)) (by decide)
theorem ca_Desk_makeOrder_330 {X : cd_E} : cd_CV X m_Desk_makeOrder m_AL_add_LObjectZ 330 1 12 := ⟨⟨by decide, kw_2_170, kw_1_9, ⟨by decide, by decide, by decide +kernel⟩, by decide, by decide⟩, ⟨_, rfl, rfl⟩, kw_2_168, kw_2_169, (Or.inl kw_2_167)⟩
theorem d_Desk_makeOrder_115 : decode prog_1_method_40_code 115 = .ok (.pop, 1) := by decide +kernel
theorem d_Desk_makeOrder_116 : decode prog_1_method_40_code 116 = .ok (.iinc 4 1, 3) := by decide +kernel
theorem d_Desk_makeOrder_119 : decode prog_1_method_40_code 119 = .ok (.goto (-103), 3) := by decide +kernel
theorem d_Desk_makeOrder_51 : decode prog_1_method_40_code 51 = .ok (.aload_n 0, 1) := by decide +kernel
theorem d_Desk_makeOrder_52 : decode prog_1_method_40_code 52 = .ok (.getfield 37, 3) := by decide +kernel
theorem d_Desk_makeOrder_55 : decode prog_1_method_40_code 55 = .ok (.aload_n 0, 1) := by decide +kernel
theorem d_Desk_makeOrder_56 : decode prog_1_method_40_code 56 = .ok (.getfield 41, 3) := by decide +kernel
theorem d_Desk_makeOrder_59 : decode prog_1_method_40_code 59 = .ok (.iload 4, 2) := by decide +kernel
theorem d_Desk_makeOrder_61 : decode prog_1_method_40_code 61 = .ok (.iaload, 1) := by decide +kernel
theorem d_Desk_makeOrder_62 : decode prog_1_method_40_code 62 = .ok (.invokevirtual 370, 3) := by decide +kernel
theorem kw_3_57 : (Jvm.Cond.methodLink "CertificateDesk" (370 : Nat) ({ cls := "CertificateDesk$Notation", name := "string", desc := "(I)Ljava/lang/String;" } : Jvm.MethodName)) ∈ cd_tbl := tb_3 (List.mem_of_getElem? (i := 57) (by decide +kernel)) (by decide)
theorem kw_3_60 : (Jvm.Cond.code ({ cls := "CertificateDesk$Notation", name := "string", desc := "(I)Ljava/lang/String;" } : Jvm.MethodName) prog_9_method_13_code (5 : Nat) (Option.some (Jvm.ClassFile.FieldType.object "java/lang/String"))) ∈ cd_tbl := tb_3 (List.mem_of_getElem? (i := 60) (by decide +kernel)) (by decide)
theorem kw_3_58 : (Jvm.Cond.instanceMethod ({ cls := "CertificateDesk$Notation", name := "string", desc := "(I)Ljava/lang/String;" } : Jvm.MethodName)) ∈ cd_tbl := tb_3 (List.mem_of_getElem? (i := 58) (by decide +kernel)) (by decide)
theorem kw_3_59 : (Jvm.Cond.selects "CertificateDesk$Notation" ({ cls := "CertificateDesk$Notation", name := "string", desc := "(I)Ljava/lang/String;" } : Jvm.MethodName) ({ cls := "CertificateDesk$Notation", name := "string", desc := "(I)Ljava/lang/String;" } : Jvm.MethodName)) ∈ cd_tbl := tb_3 (List.mem_of_getElem? (i := 59) (by decide +kernel)) (by decide)
theorem ca_Desk_makeOrder_370 {X : cd_E} : cd_CV X m_Desk_makeOrder m_Not_string 370 1 6 := ⟨⟨by decide, kw_3_60, kw_1_3, ⟨by decide, by decide, by decide +kernel⟩, by decide, by decide⟩, ⟨_, rfl, rfl⟩, kw_3_58, kw_3_59, (Or.inl kw_3_57)⟩
theorem d_Desk_makeOrder_65 : decode prog_1_method_40_code 65 = .ok (.astore 6, 2) := by decide +kernel
theorem d_Desk_makeOrder_67 : decode prog_1_method_40_code 67 = .ok (.new 130, 3) := by decide +kernel
theorem nc_Desk_130 : cd_NC "CertificateDesk" 130 2 8 := cd_NC.of cl_2 rfl kw_2_151
theorem d_Desk_makeOrder_70 : decode prog_1_method_40_code 70 = .ok (.dup, 1) := by decide +kernel
theorem d_Desk_makeOrder_71 : decode prog_1_method_40_code 71 = .ok (.aload_n 0, 1) := by decide +kernel
theorem d_Desk_makeOrder_72 : decode prog_1_method_40_code 72 = .ok (.getfield 78, 3) := by decide +kernel
theorem d_Desk_makeOrder_75 : decode prog_1_method_40_code 75 = .ok (.invokevirtual 135, 3) := by decide +kernel
theorem ca_Desk_makeOrder_135 {X : cd_E} : cd_CV X m_Desk_makeOrder m_AL_size 135 0 12 := ⟨⟨by decide, kw_2_11, kw_1_9, ⟨by decide, by decide, by decide +kernel⟩, by decide, by decide⟩, ⟨_, rfl, rfl⟩, kw_2_9, kw_2_10, (Or.inl kw_2_8)⟩
theorem d_Desk_makeOrder_78 : decode prog_1_method_40_code 78 = .ok (.aload_n 1, 1) := by decide +kernel
theorem d_Desk_makeOrder_79 : decode prog_1_method_40_code 79 = .ok (.aload 6, 2) := by decide +kernel
theorem d_Desk_makeOrder_81 : decode prog_1_method_40_code 81 = .ok (.aload_n 0, 1) := by decide +kernel
theorem d_Desk_makeOrder_82 : decode prog_1_method_40_code 82 = .ok (.getfield 84, 3) := by decide +kernel
theorem d_Desk_makeOrder_85 : decode prog_1_method_40_code 85 = .ok (.aload_n 0, 1) := by decide +kernel
theorem d_Desk_makeOrder_86 : decode prog_1_method_40_code 86 = .ok (.aload 6, 2) := by decide +kernel
theorem d_Desk_makeOrder_88 : decode prog_1_method_40_code 88 = .ok (.invokevirtual 374, 3) := by decide +kernel
theorem kw_3_209 : (Jvm.Cond.methodLink "CertificateDesk" (374 : Nat) ({ cls := "CertificateDesk", name := "placeOf", desc := "(Ljava/lang/String;)I" } : Jvm.MethodName)) ∈ cd_tbl := tb_3 (List.mem_of_getElem? (i := 209) (by decide +kernel)) (by decide)
theorem kw_3_212 : (Jvm.Cond.code ({ cls := "CertificateDesk", name := "placeOf", desc := "(Ljava/lang/String;)I" } : Jvm.MethodName) prog_1_method_41_code (3 : Nat) (Option.some Jvm.ClassFile.FieldType.int)) ∈ cd_tbl := tb_3 (List.mem_of_getElem? (i := 212) (by decide +kernel)) (by decide)
theorem kw_3_211 : (Jvm.Cond.instanceMethod ({ cls := "CertificateDesk", name := "placeOf", desc := "(Ljava/lang/String;)I" } : Jvm.MethodName)) ∈ cd_tbl := tb_3 (List.mem_of_getElem? (i := 211) (by decide +kernel)) (by decide)
theorem kp_22 : Cond.selects "CertificateDesk" ⟨"CertificateDesk", "placeOf", "(Ljava/lang/String;)I"⟩ ⟨"CertificateDesk", "placeOf", "(Ljava/lang/String;)I"⟩ ∈ cd_tbl := cd_sel (List.mem_of_getElem? (i := 22) (by decide +kernel)) (by decide)
theorem ca_Desk_makeOrder_374 {X : cd_E} : cd_CV X m_Desk_makeOrder m_Desk_placeOf 374 1 0 := ⟨⟨by decide, kw_3_212, kw_1_1, ⟨by decide, by decide, by decide +kernel⟩, by decide, by decide⟩, ⟨_, rfl, rfl⟩, kw_3_211, kp_22, (Or.inl kw_3_209)⟩
theorem d_Desk_makeOrder_91 : decode prog_1_method_40_code 91 = .ok (.invokespecial 378, 3) := by decide +kernel
theorem kw_3_221 : (Jvm.Cond.methodLink "CertificateDesk" (378 : Nat) ({ cls := "CertificateDesk$Authorization", name := "<init>", desc := "(ILCertificateDesk$Account;Ljava/lang/String;II)V" } : Jvm.MethodName)) ∈ cd_tbl := tb_3 (List.mem_of_getElem? (i := 221) (by decide +kernel)) (by decide)
theorem kw_3_223 : (Jvm.Cond.code ({ cls := "CertificateDesk$Authorization", name := "<init>", desc := "(ILCertificateDesk$Account;Ljava/lang/String;II)V" } : Jvm.MethodName) prog_3_method_1_code (6 : Nat) (Option.none : Option Jvm.ClassFile.FieldType)) ∈ cd_tbl := tb_3 (List.mem_of_getElem? (i := 223) (by decide +kernel)) (by decide)
theorem kw_3_222 : (Jvm.Cond.instanceMethod ({ cls := "CertificateDesk$Authorization", name := "<init>", desc := "(ILCertificateDesk$Account;Ljava/lang/String;II)V" } : Jvm.MethodName)) ∈ cd_tbl := tb_3 (List.mem_of_getElem? (i := 222) (by decide +kernel)) (by decide)
theorem ca_Desk_makeOrder_378 {X : cd_E} : cd_CI X m_Desk_makeOrder m_Aut_init 378 5 := ⟨⟨by decide, kw_3_223, kw_1_26, ⟨by decide, by decide, by decide +kernel⟩, by decide, by decide⟩, rfl, rfl, kw_3_222, (Or.inl kw_3_221)⟩
theorem d_Desk_makeOrder_94 : decode prog_1_method_40_code 94 = .ok (.astore 5, 2) := by decide +kernel
theorem d_Desk_makeOrder_96 : decode prog_1_method_40_code 96 = .ok (.aload_n 0, 1) := by decide +kernel
theorem d_Desk_makeOrder_97 : decode prog_1_method_40_code 97 = .ok (.getfield 78, 3) := by decide +kernel
theorem d_Desk_makeOrder_100 : decode prog_1_method_40_code 100 = .ok (.aload 5, 2) := by decide +kernel
theorem d_Desk_makeOrder_102 : decode prog_1_method_40_code 102 = .ok (.invokevirtual 330, 3) := by decide +kernel
theorem d_Desk_makeOrder_105 : decode prog_1_method_40_code 105 = .ok (.pop, 1) := by decide +kernel
theorem g_Desk_makeOrder_16 {X : cd_E} {kc ks : Nat} {h : cd_H} {Q : Option Value → cd_H → Prop} {v1 : Nat} {v2 : Int32} {v3 : Nat} {v4 : Int32} (F : cc_ok h) (H : (((v2 ≤ v4) → (Q (some (.ref v3)) h)) ∧ ((¬ v2 ≤ v4) → (((((nI 32) ≤ v4) → (Q (some (.ref v3)) h)) ∧ ((¬ (nI 32) ≤ v4) → ((vp_in v4 32) ∧ (cd_W X m_Desk_provedPart 0 0 0 [some (.ref 64), some (.ref v1), some (.int (cd_i h 73 v4.toNatClampNeg)), none, none] [] h (fun r4 h5 => ∃ o6 : Option Nat, r4 = some (va_rf o6) ∧ ((cc_ok h5) ∧ ((((o6 = none) → (cd_W X m_Not_string 20 600 0 [some (.ref 71), some (.int (cd_i h5 73 v4.toNatClampNeg)), none, none, none] [] h5 (fun r18 h19 => ∃ b20 : Nat, r18 = some (.ref b20) ∧ ((cc_ok h19) ∧ (cd_W X m_AL_size 0 0 0 [some (.ref 80)] [] (cd_new h19 (.inl 2)) (fun r22 h23 => ∃ x24 : Int32, r22 = some (.int x24) ∧ ((cc_ok h23) ∧ (cd_W X m_Desk_placeOf 0 0 0 [some (.ref 64), some (.ref b20), none] [] h23 (fun r26 h27 => ∃ x28 : Int32, r26 = some (.int x28) ∧ ((cc_ok h27) ∧ (cd_W X m_Aut_init 0 0 0 [some (.ref (cd_n h19)), some (.int x24), some (.ref v1), some (.ref b20), some (.int (cd_i h23 64 12)), some (.int x28)] [] h27 (fun r30 h31 => (r30 = none) ∧ ((cc_ok h31) ∧ (cd_W X m_AL_add_LObjectZ 1 40 0 [some (.ref 80), some (.ref (cd_n h19))] [] h31 (fun r33 h34 => ∃ x35 : Int32, r33 = some (.int x35) ∧ ((cc_ok h34) ∧ ((cd_k h34 v3 = some (.inl 8)) ∧ ((∃ b38 : Nat, (cd_r h34 v3 2) = some b38 ∧ ((cd_k h34 b38 = some (.inl 12)) ∧ (cd_W X m_AL_add_LObjectZ 1 40 0 [some (.ref b38), some (.ref (cd_n h19))] [] h34 (fun r41 h42 => ∃ x43 : Int32, r41 = some (.int x43) ∧ ((cc_ok h42) ∧ (cd_W X m_Desk_makeOrder kc ks 16 [some (.ref 64), some (.ref v1), some (.int v2), some (.ref v3), some (.int (v4 + 1)), none, none] [] h42 Q)))))))))))))))))))))))) ∧ (∀ b9 : Nat, o6 = some b9 → ((cd_k h5 v3 = some (.inl 8)) ∧ ((∃ b11 : Nat, (cd_r h5 v3 2) = some b11 ∧ ((cd_k h5 b11 = some (.inl 12)) ∧ (cd_W X m_AL_add_LObjectZ 1 40 0 [some (.ref b11), some (.ref b9)] [] h5 (fun r14 h15 => ∃ x16 : Int32, r14 = some (.int x16) ∧ ((cc_ok h15) ∧ (cd_W X m_Desk_makeOrder kc ks 16 [some (.ref 64), some (.ref v1), some (.int v2), some (.ref v3), some (.int (v4 + 1)), none, none] [] h15 Q))))))))))))))))))))) : cd_W X m_Desk_makeOrder (kc + 23) (ks + 688) 16 [some (.ref 64), some (.ref v1), some (.int v2), some (.ref v3), some (.int v4), none, none] [] h Q := by
  refine cd_iload (i := 4) d_Desk_makeOrder_16 rfl ?_
  refine cd_iload_n (i := 2) d_Desk_makeOrder_18 rfl rfl ?_
  refine cd_icmp_ge (tgt := 122) d_Desk_makeOrder_19 (by decide) (fun t1 => ?_) (fun t1 => ?_)
  · replace H := H.1 t1
    refine cd_aload_n (i := 3) (v := .ref v3) d_Desk_makeOrder_122 rfl rfl (cd_isr_ref _) ?_
    exact cd_aret d_Desk_makeOrder_123 rfl (Or.inl ⟨_, rfl⟩) (cd_isr_ref _) H
  · replace H := H.2 t1
    refine cd_iload (i := 4) d_Desk_makeOrder_22 rfl ?_
    refine cd_aload_n (i := 0) (v := .ref 64) d_Desk_makeOrder_24 rfl rfl (cd_isr_ref _) ?_
    refine cd_get (v := .ref 73) d_Desk_makeOrder_25 fl_Desk_41 (cc_k64 F) (congrArg va_rf (cc_r64_4 F)) ?_
    refine cd_alen d_Desk_makeOrder_28 rfl (cc_k73 F) ?_
    refine cd_icmp_ge (tgt := 122) d_Desk_makeOrder_29 (by decide) (fun t2 => ?_) (fun t2 => ?_)
    · replace H := H.1 t2
      refine cd_aload_n (i := 3) (v := .ref v3) d_Desk_makeOrder_122 rfl rfl (cd_isr_ref _) ?_
      exact cd_aret d_Desk_makeOrder_123 rfl (Or.inl ⟨_, rfl⟩) (cd_isr_ref _) H
    · replace H := H.2 t2
      refine cd_aload_n (i := 0) (v := .ref 64) d_Desk_makeOrder_32 rfl rfl (cd_isr_ref _) ?_
      refine cd_aload_n (i := 1) (v := .ref v1) d_Desk_makeOrder_33 rfl rfl (cd_isr_ref _) ?_
      refine cd_aload_n (i := 0) (v := .ref 64) d_Desk_makeOrder_34 rfl rfl (cd_isr_ref _) ?_
      refine cd_get (v := .ref 73) d_Desk_makeOrder_35 fl_Desk_41 (cc_k64 F) (congrArg va_rf (cc_r64_4 F)) ?_
      refine cd_iload (i := 4) d_Desk_makeOrder_38 rfl ?_
      obtain ⟨c3, H⟩ := H
      refine cd_iald (j := v4) d_Desk_makeOrder_40 rfl (cc_k73 F) c3 ?_
      refine cd_callV (kc := (kc + 23)) (ks := (ks + 688)) (kc' := 0) (ks' := 0) (As := [.ref v1, .int (cd_i h 73 v4.toNatClampNeg)]) (S := []) d_Desk_makeOrder_41 ca_Desk_makeOrder_346 (cc_k64 F) rfl (Nat.le_of_ble_eq_true rfl) (Nat.le_of_ble_eq_true rfl) ?_
      refine cd_W.mono (fun r4 h5 H => ?_) H
      obtain ⟨o6, rfl, H⟩ := H
      obtain ⟨F7, H⟩ := H
      show cd_W X m_Desk_makeOrder (kc + 23) (ks + 688) 44 [some (.ref 64), some (.ref v1), some (.int v2), some (.ref v3), some (.int v4), none, none] [va_rf o6] h5 Q
      refine cd_astore (i := 5) d_Desk_makeOrder_44 (by decide) (cd_isr_rf _) ?_
      show cd_W X m_Desk_makeOrder (kc + 23) (ks + 688) 46 [some (.ref 64), some (.ref v1), some (.int v2), some (.ref v3), some (.int v4), some (va_rf o6), none] [] h5 Q
      refine cd_aload (i := 5) (v := va_rf o6) d_Desk_makeOrder_46 rfl (cd_isr_rf _) ?_
      refine cd_ifnonnull (r := o6) (tgt := 106) d_Desk_makeOrder_48 (by decide) (fun b9 t8 => ?_) (fun t8 => ?_)
      · replace H := H.2 b9 t8
        rw [cd_rfs t8]
        refine cd_aload_n (i := 3) (v := .ref v3) d_Desk_makeOrder_106 rfl rfl (cd_isr_ref _) ?_
        obtain ⟨c10, H⟩ := H
        refine cd_get (v := va_rf (cd_r h5 v3 2)) d_Desk_makeOrder_107 fl_Desk_198 c10 rfl ?_
        refine cd_aload (i := 5) (v := .ref b9) d_Desk_makeOrder_110 rfl (cd_isr_ref _) ?_
        obtain ⟨b11, e12, H⟩ := H
        rw [cd_rfs e12]
        obtain ⟨c13, H⟩ := H
        refine cd_callV (kc := (kc + 22)) (ks := (ks + 648)) (kc' := 1) (ks' := 40) (As := [.ref b9]) (S := []) d_Desk_makeOrder_112 ca_Desk_makeOrder_330 c13 rfl (Nat.le_of_ble_eq_true rfl) (Nat.le_of_ble_eq_true rfl) ?_
        refine cd_W.mono (fun r14 h15 H => ?_) H
        obtain ⟨x16, rfl, H⟩ := H
        obtain ⟨F17, H⟩ := H
        show cd_W X m_Desk_makeOrder (kc + 22) (ks + 648) 115 [some (.ref 64), some (.ref v1), some (.int v2), some (.ref v3), some (.int v4), some (.ref b9), none] [.int x16] h15 Q
        refine cd_pop d_Desk_makeOrder_115 rfl ?_
        refine cd_iinc (i := 4) (v := (v4 + 1)) d_Desk_makeOrder_116 rfl (cd_inc1 _) (by decide) ?_
        show cd_W X m_Desk_makeOrder (kc + 22) (ks + 648) 119 [some (.ref 64), some (.ref v1), some (.int v2), some (.ref v3), some (.int (v4 + 1)), some (.ref b9), none] [] h15 Q
        refine cd_goto (tgt := 16) d_Desk_makeOrder_119 (by decide) ?_
        refine cd_W.drop (i := 5) ?_
        refine cd_W.budget (kc := kc) (ks := ks) (by omega) (by omega) ?_
        exact H
      · replace H := H.1 t8
        rw [cd_rfn t8]
        refine cd_aload_n (i := 0) (v := .ref 64) d_Desk_makeOrder_51 rfl rfl (cd_isr_ref _) ?_
        refine cd_get (v := .ref 71) d_Desk_makeOrder_52 fl_Desk_37 (cc_k64 F7) (congrArg va_rf (cc_r64_3 F7)) ?_
        refine cd_aload_n (i := 0) (v := .ref 64) d_Desk_makeOrder_55 rfl rfl (cd_isr_ref _) ?_
        refine cd_get (v := .ref 73) d_Desk_makeOrder_56 fl_Desk_41 (cc_k64 F7) (congrArg va_rf (cc_r64_4 F7)) ?_
        refine cd_iload (i := 4) d_Desk_makeOrder_59 rfl ?_
        refine cd_iald (j := v4) d_Desk_makeOrder_61 rfl (cc_k73 F7) c3 ?_
        refine cd_callV (kc := (kc + 3)) (ks := (ks + 88)) (kc' := 20) (ks' := 600) (As := [.int (cd_i h5 73 v4.toNatClampNeg)]) (S := []) d_Desk_makeOrder_62 ca_Desk_makeOrder_370 (cc_k71 F7) rfl (Nat.le_of_ble_eq_true rfl) (Nat.le_of_ble_eq_true rfl) ?_
        refine cd_W.mono (fun r18 h19 H => ?_) H
        obtain ⟨b20, rfl, H⟩ := H
        obtain ⟨F21, H⟩ := H
        show cd_W X m_Desk_makeOrder (kc + 3) (ks + 88) 65 [some (.ref 64), some (.ref v1), some (.int v2), some (.ref v3), some (.int v4), some (.null), none] [.ref b20] h19 Q
        refine cd_astore (i := 6) d_Desk_makeOrder_65 (by decide) (cd_isr_ref _) ?_
        show cd_W X m_Desk_makeOrder (kc + 3) (ks + 88) 67 [some (.ref 64), some (.ref v1), some (.int v2), some (.ref v3), some (.int v4), some (.null), some (.ref b20)] [] h19 Q
        refine cd_newo (kc := (kc + 2)) (ks := (ks + 80)) d_Desk_makeOrder_67 nc_Desk_130 ?_
        refine cd_dup d_Desk_makeOrder_70 rfl ?_
        refine cd_aload_n (i := 0) (v := .ref 64) d_Desk_makeOrder_71 rfl rfl (cd_isr_ref _) ?_
        refine cd_get (v := .ref 80) d_Desk_makeOrder_72 fl_Desk_78 (cc_k64 F21) (congrArg va_rf (cc_r64_10 F21)) ?_
        refine cd_callV (kc := (kc + 2)) (ks := (ks + 80)) (kc' := 0) (ks' := 0) (As := []) (S := [.ref (cd_n h19), .ref (cd_n h19)]) d_Desk_makeOrder_75 ca_Desk_makeOrder_135 (cc_k80 F21) rfl (Nat.le_of_ble_eq_true rfl) (Nat.le_of_ble_eq_true rfl) ?_
        refine cd_W.mono (fun r22 h23 H => ?_) H
        obtain ⟨x24, rfl, H⟩ := H
        obtain ⟨F25, H⟩ := H
        show cd_W X m_Desk_makeOrder (kc + 2) (ks + 80) 78 [some (.ref 64), some (.ref v1), some (.int v2), some (.ref v3), some (.int v4), some (.null), some (.ref b20)] [.int x24, .ref (cd_n h19), .ref (cd_n h19)] h23 Q
        refine cd_aload_n (i := 1) (v := .ref v1) d_Desk_makeOrder_78 rfl rfl (cd_isr_ref _) ?_
        refine cd_aload (i := 6) (v := .ref b20) d_Desk_makeOrder_79 rfl (cd_isr_ref _) ?_
        refine cd_aload_n (i := 0) (v := .ref 64) d_Desk_makeOrder_81 rfl rfl (cd_isr_ref _) ?_
        refine cd_get (v := .int (cd_i h23 64 12)) d_Desk_makeOrder_82 fl_Desk_84 (cc_k64 F25) rfl ?_
        refine cd_aload_n (i := 0) (v := .ref 64) d_Desk_makeOrder_85 rfl rfl (cd_isr_ref _) ?_
        refine cd_aload (i := 6) (v := .ref b20) d_Desk_makeOrder_86 rfl (cd_isr_ref _) ?_
        refine cd_callV (kc := (kc + 2)) (ks := (ks + 80)) (kc' := 0) (ks' := 0) (As := [.ref b20]) (S := [.int (cd_i h23 64 12), .ref b20, .ref v1, .int x24, .ref (cd_n h19), .ref (cd_n h19)]) d_Desk_makeOrder_88 ca_Desk_makeOrder_374 (cc_k64 F25) rfl (Nat.le_of_ble_eq_true rfl) (Nat.le_of_ble_eq_true rfl) ?_
        refine cd_W.mono (fun r26 h27 H => ?_) H
        obtain ⟨x28, rfl, H⟩ := H
        obtain ⟨F29, H⟩ := H
        show cd_W X m_Desk_makeOrder (kc + 2) (ks + 80) 91 [some (.ref 64), some (.ref v1), some (.int v2), some (.ref v3), some (.int v4), some (.null), some (.ref b20)] [.int x28, .int (cd_i h23 64 12), .ref b20, .ref v1, .int x24, .ref (cd_n h19), .ref (cd_n h19)] h27 Q
        refine cd_callI (kc := (kc + 2)) (ks := (ks + 80)) (kc' := 0) (ks' := 0) (As := [.int x24, .ref v1, .ref b20, .int (cd_i h23 64 12), .int x28]) (S := [.ref (cd_n h19)]) d_Desk_makeOrder_91 ca_Desk_makeOrder_378 rfl (Nat.le_of_ble_eq_true rfl) (Nat.le_of_ble_eq_true rfl) ?_
        refine cd_W.mono (fun r30 h31 H => ?_) H
        obtain ⟨rfl, H⟩ := H
        obtain ⟨F32, H⟩ := H
        show cd_W X m_Desk_makeOrder (kc + 2) (ks + 80) 94 [some (.ref 64), some (.ref v1), some (.int v2), some (.ref v3), some (.int v4), some (.null), some (.ref b20)] [.ref (cd_n h19)] h31 Q
        refine cd_astore (i := 5) d_Desk_makeOrder_94 (by decide) (cd_isr_ref _) ?_
        show cd_W X m_Desk_makeOrder (kc + 2) (ks + 80) 96 [some (.ref 64), some (.ref v1), some (.int v2), some (.ref v3), some (.int v4), some (.ref (cd_n h19)), some (.ref b20)] [] h31 Q
        refine cd_aload_n (i := 0) (v := .ref 64) d_Desk_makeOrder_96 rfl rfl (cd_isr_ref _) ?_
        refine cd_get (v := .ref 80) d_Desk_makeOrder_97 fl_Desk_78 (cc_k64 F32) (congrArg va_rf (cc_r64_10 F32)) ?_
        refine cd_aload (i := 5) (v := .ref (cd_n h19)) d_Desk_makeOrder_100 rfl (cd_isr_ref _) ?_
        refine cd_callV (kc := (kc + 1)) (ks := (ks + 40)) (kc' := 1) (ks' := 40) (As := [.ref (cd_n h19)]) (S := []) d_Desk_makeOrder_102 ca_Desk_makeOrder_330 (cc_k80 F32) rfl (Nat.le_of_ble_eq_true rfl) (Nat.le_of_ble_eq_true rfl) ?_
        refine cd_W.mono (fun r33 h34 H => ?_) H
        obtain ⟨x35, rfl, H⟩ := H
        obtain ⟨F36, H⟩ := H
        show cd_W X m_Desk_makeOrder (kc + 1) (ks + 40) 105 [some (.ref 64), some (.ref v1), some (.int v2), some (.ref v3), some (.int v4), some (.ref (cd_n h19)), some (.ref b20)] [.int x35] h34 Q
        refine cd_pop d_Desk_makeOrder_105 rfl ?_
        refine cd_aload_n (i := 3) (v := .ref v3) d_Desk_makeOrder_106 rfl rfl (cd_isr_ref _) ?_
        obtain ⟨c37, H⟩ := H
        refine cd_get (v := va_rf (cd_r h34 v3 2)) d_Desk_makeOrder_107 fl_Desk_198 c37 rfl ?_
        refine cd_aload (i := 5) (v := .ref (cd_n h19)) d_Desk_makeOrder_110 rfl (cd_isr_ref _) ?_
        obtain ⟨b38, e39, H⟩ := H
        rw [cd_rfs e39]
        obtain ⟨c40, H⟩ := H
        refine cd_callV (kc := (kc + 0)) (ks := (ks + 0)) (kc' := 1) (ks' := 40) (As := [.ref (cd_n h19)]) (S := []) d_Desk_makeOrder_112 ca_Desk_makeOrder_330 c40 rfl (Nat.le_of_ble_eq_true rfl) (Nat.le_of_ble_eq_true rfl) ?_
        refine cd_W.mono (fun r41 h42 H => ?_) H
        obtain ⟨x43, rfl, H⟩ := H
        obtain ⟨F44, H⟩ := H
        show cd_W X m_Desk_makeOrder (kc + 0) (ks + 0) 115 [some (.ref 64), some (.ref v1), some (.int v2), some (.ref v3), some (.int v4), some (.ref (cd_n h19)), some (.ref b20)] [.int x43] h42 Q
        refine cd_pop d_Desk_makeOrder_115 rfl ?_
        refine cd_iinc (i := 4) (v := (v4 + 1)) d_Desk_makeOrder_116 rfl (cd_inc1 _) (by decide) ?_
        show cd_W X m_Desk_makeOrder (kc + 0) (ks + 0) 119 [some (.ref 64), some (.ref v1), some (.int v2), some (.ref v3), some (.int (v4 + 1)), some (.ref (cd_n h19)), some (.ref b20)] [] h42 Q
        refine cd_goto (tgt := 16) d_Desk_makeOrder_119 (by decide) ?_
        refine cd_W.drop (i := 5) ?_
        refine cd_W.drop (i := 6) ?_
        refine cd_W.budget (kc := kc) (ks := ks) (by omega) (by omega) ?_
        exact H

abbrev m_Desk_certify : cd_M := (⟨"CertificateDesk", "certify", "(LCertificateDesk$Order;II)LCertificateDesk$Octets;"⟩, prog_1_method_46_code, 9, some (.object "CertificateDesk$Octets"), 28, 613)
theorem d_Desk_certify_0 : decode prog_1_method_46_code 0 = .ok (.new 221, 3) := by decide +kernel
theorem kw_4_64 : (Jvm.Cond.classLink "CertificateDesk" (221 : Nat) "CertificateDesk$Octets") ∈ cd_tbl := tb_4 (List.mem_of_getElem? (i := 64) (by decide +kernel)) (by decide)
theorem nc_Desk_221 : cd_NC "CertificateDesk" 221 7 2 := cd_NC.of cl_7 rfl kw_4_64
theorem d_Desk_certify_3 : decode prog_1_method_46_code 3 = .ok (.dup, 1) := by decide +kernel
theorem d_Desk_certify_4 : decode prog_1_method_46_code 4 = .ok (.invokespecial 411, 3) := by decide +kernel
theorem kw_4_68 : (Jvm.Cond.code ({ cls := "CertificateDesk$Octets", name := "<init>", desc := "()V" } : Jvm.MethodName) prog_10_method_1_code (1 : Nat) (Option.none : Option Jvm.ClassFile.FieldType)) ∈ cd_tbl := tb_4 (List.mem_of_getElem? (i := 68) (by decide +kernel)) (by decide)
theorem kw_4_67 : (Jvm.Cond.instanceMethod ({ cls := "CertificateDesk$Octets", name := "<init>", desc := "()V" } : Jvm.MethodName)) ∈ cd_tbl := tb_4 (List.mem_of_getElem? (i := 67) (by decide +kernel)) (by decide)
theorem ca_Desk_certify_411 {X : cd_E} : cd_CI X m_Desk_certify m_Oct_init 411 0 := ⟨⟨by decide, kw_4_68, kw_1_28, ⟨by decide, by decide, by decide +kernel⟩, by decide, by decide⟩, rfl, rfl, kw_4_67, (Or.inr ⟨"CertificateDesk", fun _ hG => hG.2.1 _ (List.mem_of_getElem? (i := 3) rfl)⟩)⟩
theorem d_Desk_certify_7 : decode prog_1_method_46_code 7 = .ok (.astore 4, 2) := by decide +kernel
theorem d_Desk_certify_9 : decode prog_1_method_46_code 9 = .ok (.aload 4, 2) := by decide +kernel
theorem d_Desk_certify_11 : decode prog_1_method_46_code 11 = .ok (.invokevirtual 412, 3) := by decide +kernel
theorem kw_4_78 : (Jvm.Cond.methodLink "CertificateDesk" (412 : Nat) ({ cls := "CertificateDesk$Octets", name := "openRow", desc := "()I" } : Jvm.MethodName)) ∈ cd_tbl := tb_4 (List.mem_of_getElem? (i := 78) (by decide +kernel)) (by decide)
theorem kw_4_81 : (Jvm.Cond.code ({ cls := "CertificateDesk$Octets", name := "openRow", desc := "()I" } : Jvm.MethodName) prog_10_method_3_code (2 : Nat) (Option.some Jvm.ClassFile.FieldType.int)) ∈ cd_tbl := tb_4 (List.mem_of_getElem? (i := 81) (by decide +kernel)) (by decide)
theorem kw_4_79 : (Jvm.Cond.instanceMethod ({ cls := "CertificateDesk$Octets", name := "openRow", desc := "()I" } : Jvm.MethodName)) ∈ cd_tbl := tb_4 (List.mem_of_getElem? (i := 79) (by decide +kernel)) (by decide)
theorem kw_4_80 : (Jvm.Cond.selects "CertificateDesk$Octets" ({ cls := "CertificateDesk$Octets", name := "openRow", desc := "()I" } : Jvm.MethodName) ({ cls := "CertificateDesk$Octets", name := "openRow", desc := "()I" } : Jvm.MethodName)) ∈ cd_tbl := tb_4 (List.mem_of_getElem? (i := 80) (by decide +kernel)) (by decide)
theorem ca_Desk_certify_412 {X : cd_E} : cd_CV X m_Desk_certify m_Oct_openRow 412 0 7 := ⟨⟨by decide, kw_4_81, kw_1_28, ⟨by decide, by decide, by decide +kernel⟩, by decide, by decide⟩, ⟨_, rfl, rfl⟩, kw_4_79, kw_4_80, (Or.inl kw_4_78)⟩
theorem d_Desk_certify_14 : decode prog_1_method_46_code 14 = .ok (.istore 5, 2) := by decide +kernel
theorem d_Desk_certify_16 : decode prog_1_method_46_code 16 = .ok (.aload 4, 2) := by decide +kernel
theorem d_Desk_certify_18 : decode prog_1_method_46_code 18 = .ok (.invokevirtual 412, 3) := by decide +kernel
theorem d_Desk_certify_21 : decode prog_1_method_46_code 21 = .ok (.istore 6, 2) := by decide +kernel
theorem d_Desk_certify_23 : decode prog_1_method_46_code 23 = .ok (.aload 4, 2) := by decide +kernel
theorem d_Desk_certify_25 : decode prog_1_method_46_code 25 = .ok (.iload_n 2, 1) := by decide +kernel
theorem d_Desk_certify_26 : decode prog_1_method_46_code 26 = .ok (.invokevirtual 415, 3) := by decide +kernel
theorem kw_4_86 : (Jvm.Cond.methodLink "CertificateDesk" (415 : Nat) ({ cls := "CertificateDesk$Octets", name := "putInteger", desc := "(I)V" } : Jvm.MethodName)) ∈ cd_tbl := tb_4 (List.mem_of_getElem? (i := 86) (by decide +kernel)) (by decide)
theorem kw_4_89 : (Jvm.Cond.code ({ cls := "CertificateDesk$Octets", name := "putInteger", desc := "(I)V" } : Jvm.MethodName) prog_10_method_5_code (3 : Nat) (Option.none : Option Jvm.ClassFile.FieldType)) ∈ cd_tbl := tb_4 (List.mem_of_getElem? (i := 89) (by decide +kernel)) (by decide)
theorem kw_4_87 : (Jvm.Cond.instanceMethod ({ cls := "CertificateDesk$Octets", name := "putInteger", desc := "(I)V" } : Jvm.MethodName)) ∈ cd_tbl := tb_4 (List.mem_of_getElem? (i := 87) (by decide +kernel)) (by decide)
theorem kw_4_88 : (Jvm.Cond.selects "CertificateDesk$Octets" ({ cls := "CertificateDesk$Octets", name := "putInteger", desc := "(I)V" } : Jvm.MethodName) ({ cls := "CertificateDesk$Octets", name := "putInteger", desc := "(I)V" } : Jvm.MethodName)) ∈ cd_tbl := tb_4 (List.mem_of_getElem? (i := 88) (by decide +kernel)) (by decide)
theorem ca_Desk_certify_415 {X : cd_E} : cd_CV X m_Desk_certify m_Oct_putInteger 415 1 7 := ⟨⟨by decide, kw_4_89, kw_1_28, ⟨by decide, by decide, by decide +kernel⟩, by decide, by decide⟩, ⟨_, rfl, rfl⟩, kw_4_87, kw_4_88, (Or.inl kw_4_86)⟩
theorem d_Desk_certify_29 : decode prog_1_method_46_code 29 = .ok (.aload 4, 2) := by decide +kernel
theorem d_Desk_certify_31 : decode prog_1_method_46_code 31 = .ok (.aload_n 0, 1) := by decide +kernel
theorem d_Desk_certify_32 : decode prog_1_method_46_code 32 = .ok (.getfield 84, 3) := by decide +kernel
theorem d_Desk_certify_35 : decode prog_1_method_46_code 35 = .ok (.invokevirtual 415, 3) := by decide +kernel
theorem d_Desk_certify_38 : decode prog_1_method_46_code 38 = .ok (.aload 4, 2) := by decide +kernel
theorem d_Desk_certify_40 : decode prog_1_method_46_code 40 = .ok (.aload_n 0, 1) := by decide +kernel
theorem d_Desk_certify_41 : decode prog_1_method_46_code 41 = .ok (.getfield 84, 3) := by decide +kernel
theorem d_Desk_certify_44 : decode prog_1_method_46_code 44 = .ok (.bipush 20, 2) := by decide +kernel
theorem d_Desk_certify_46 : decode prog_1_method_46_code 46 = .ok (.iadd, 1) := by decide +kernel
theorem d_Desk_certify_47 : decode prog_1_method_46_code 47 = .ok (.invokevirtual 415, 3) := by decide +kernel
theorem d_Desk_certify_50 : decode prog_1_method_46_code 50 = .ok (.aload 4, 2) := by decide +kernel
theorem d_Desk_certify_52 : decode prog_1_method_46_code 52 = .ok (.iload_n 3, 1) := by decide +kernel
theorem d_Desk_certify_53 : decode prog_1_method_46_code 53 = .ok (.invokevirtual 415, 3) := by decide +kernel
theorem d_Desk_certify_56 : decode prog_1_method_46_code 56 = .ok (.aload 4, 2) := by decide +kernel
theorem d_Desk_certify_58 : decode prog_1_method_46_code 58 = .ok (.invokevirtual 412, 3) := by decide +kernel
theorem d_Desk_certify_61 : decode prog_1_method_46_code 61 = .ok (.istore 7, 2) := by decide +kernel
theorem d_Desk_certify_63 : decode prog_1_method_46_code 63 = .ok (.iconst 0, 1) := by decide +kernel
theorem d_Desk_certify_64 : decode prog_1_method_46_code 64 = .ok (.istore 8, 2) := by decide +kernel
theorem g_Desk_certify {X : cd_E} {kc ks : Nat} {h : cd_H} {Q : Option Value → cd_H → Prop} {p1 : Nat} {p2 : Int32} {p3 : Int32} (F : cc_ok h) (H : cd_W X m_Oct_init 1 80 0 [some (.ref (cd_n h))] [] (cd_new h (.inl 7)) (fun r1 h2 => (r1 = none) ∧ ((cc_ok h2) ∧ ((cd_k h2 (cd_n h) = some (.inl 7)) ∧ (cd_W X m_Oct_openRow 0 0 0 [some (.ref (cd_n h)), none] [] h2 (fun r5 h6 => ∃ x7 : Int32, r5 = some (.int x7) ∧ ((cc_ok h6) ∧ ((cd_k h6 (cd_n h) = some (.inl 7)) ∧ (cd_W X m_Oct_openRow 0 0 0 [some (.ref (cd_n h)), none] [] h6 (fun r10 h11 => ∃ x12 : Int32, r10 = some (.int x12) ∧ ((cc_ok h11) ∧ ((cd_k h11 (cd_n h) = some (.inl 7)) ∧ (cd_W X m_Oct_putInteger 0 0 0 [some (.ref (cd_n h)), some (.int p2), none] [] h11 (fun r15 h16 => (r15 = none) ∧ ((cc_ok h16) ∧ ((cd_k h16 (cd_n h) = some (.inl 7)) ∧ (cd_W X m_Oct_putInteger 0 0 0 [some (.ref (cd_n h)), some (.int (cd_i h16 64 12)), none] [] h16 (fun r19 h20 => (r19 = none) ∧ ((cc_ok h20) ∧ ((cd_k h20 (cd_n h) = some (.inl 7)) ∧ (cd_W X m_Oct_putInteger 0 0 0 [some (.ref (cd_n h)), some (.int ((cd_i h20 64 12) + 20)), none] [] h20 (fun r23 h24 => (r23 = none) ∧ ((cc_ok h24) ∧ ((cd_k h24 (cd_n h) = some (.inl 7)) ∧ (cd_W X m_Oct_putInteger 0 0 0 [some (.ref (cd_n h)), some (.int p3), none] [] h24 (fun r27 h28 => (r27 = none) ∧ ((cc_ok h28) ∧ ((cd_k h28 (cd_n h) = some (.inl 7)) ∧ (cd_W X m_Oct_openRow 0 0 0 [some (.ref (cd_n h)), none] [] h28 (fun r31 h32 => ∃ x33 : Int32, r31 = some (.int x33) ∧ ((cc_ok h32) ∧ (cd_W X m_Desk_certify kc ks 66 [some (.ref 64), some (.ref p1), none, none, some (.ref (cd_n h)), some (.int x7), some (.int x12), some (.int x33), some (.int 0)] [] h32 Q)))))))))))))))))))))))))))))))) : cd_W X m_Desk_certify (kc + 2) (ks + 82) 0 [some (.ref 64), some (.ref p1), some (.int p2), some (.int p3), none, none, none, none, none] [] h Q := by
  refine cd_newo (kc := (kc + 1)) (ks := (ks + 80)) d_Desk_certify_0 nc_Desk_221 ?_
  refine cd_dup d_Desk_certify_3 rfl ?_
  refine cd_callI (kc := (kc + 0)) (ks := (ks + 0)) (kc' := 1) (ks' := 80) (As := []) (S := [.ref (cd_n h)]) d_Desk_certify_4 ca_Desk_certify_411 rfl (Nat.le_of_ble_eq_true rfl) (Nat.le_of_ble_eq_true rfl) ?_
  refine cd_W.mono (fun r1 h2 H => ?_) H
  obtain ⟨rfl, H⟩ := H
  obtain ⟨F3, H⟩ := H
  show cd_W X m_Desk_certify (kc + 0) (ks + 0) 7 [some (.ref 64), some (.ref p1), some (.int p2), some (.int p3), none, none, none, none, none] [.ref (cd_n h)] h2 Q
  refine cd_astore (i := 4) d_Desk_certify_7 (by decide) (cd_isr_ref _) ?_
  show cd_W X m_Desk_certify (kc + 0) (ks + 0) 9 [some (.ref 64), some (.ref p1), some (.int p2), some (.int p3), some (.ref (cd_n h)), none, none, none, none] [] h2 Q
  refine cd_aload (i := 4) (v := .ref (cd_n h)) d_Desk_certify_9 rfl (cd_isr_ref _) ?_
  obtain ⟨c4, H⟩ := H
  refine cd_callV (kc := (kc + 0)) (ks := (ks + 0)) (kc' := 0) (ks' := 0) (As := []) (S := []) d_Desk_certify_11 ca_Desk_certify_412 c4 rfl (Nat.le_of_ble_eq_true rfl) (Nat.le_of_ble_eq_true rfl) ?_
  refine cd_W.mono (fun r5 h6 H => ?_) H
  obtain ⟨x7, rfl, H⟩ := H
  obtain ⟨F8, H⟩ := H
  show cd_W X m_Desk_certify (kc + 0) (ks + 0) 14 [some (.ref 64), some (.ref p1), some (.int p2), some (.int p3), some (.ref (cd_n h)), none, none, none, none] [.int x7] h6 Q
  refine cd_istore (i := 5) d_Desk_certify_14 (by decide) ?_
  show cd_W X m_Desk_certify (kc + 0) (ks + 0) 16 [some (.ref 64), some (.ref p1), some (.int p2), some (.int p3), some (.ref (cd_n h)), some (.int x7), none, none, none] [] h6 Q
  refine cd_aload (i := 4) (v := .ref (cd_n h)) d_Desk_certify_16 rfl (cd_isr_ref _) ?_
  obtain ⟨c9, H⟩ := H
  refine cd_callV (kc := (kc + 0)) (ks := (ks + 0)) (kc' := 0) (ks' := 0) (As := []) (S := []) d_Desk_certify_18 ca_Desk_certify_412 c9 rfl (Nat.le_of_ble_eq_true rfl) (Nat.le_of_ble_eq_true rfl) ?_
  refine cd_W.mono (fun r10 h11 H => ?_) H
  obtain ⟨x12, rfl, H⟩ := H
  obtain ⟨F13, H⟩ := H
  show cd_W X m_Desk_certify (kc + 0) (ks + 0) 21 [some (.ref 64), some (.ref p1), some (.int p2), some (.int p3), some (.ref (cd_n h)), some (.int x7), none, none, none] [.int x12] h11 Q
  refine cd_istore (i := 6) d_Desk_certify_21 (by decide) ?_
  show cd_W X m_Desk_certify (kc + 0) (ks + 0) 23 [some (.ref 64), some (.ref p1), some (.int p2), some (.int p3), some (.ref (cd_n h)), some (.int x7), some (.int x12), none, none] [] h11 Q
  refine cd_aload (i := 4) (v := .ref (cd_n h)) d_Desk_certify_23 rfl (cd_isr_ref _) ?_
  refine cd_iload_n (i := 2) d_Desk_certify_25 rfl rfl ?_
  obtain ⟨c14, H⟩ := H
  refine cd_callV (kc := (kc + 0)) (ks := (ks + 0)) (kc' := 0) (ks' := 0) (As := [.int p2]) (S := []) d_Desk_certify_26 ca_Desk_certify_415 c14 rfl (Nat.le_of_ble_eq_true rfl) (Nat.le_of_ble_eq_true rfl) ?_
  refine cd_W.mono (fun r15 h16 H => ?_) H
  obtain ⟨rfl, H⟩ := H
  obtain ⟨F17, H⟩ := H
  show cd_W X m_Desk_certify (kc + 0) (ks + 0) 29 [some (.ref 64), some (.ref p1), some (.int p2), some (.int p3), some (.ref (cd_n h)), some (.int x7), some (.int x12), none, none] [] h16 Q
  refine cd_aload (i := 4) (v := .ref (cd_n h)) d_Desk_certify_29 rfl (cd_isr_ref _) ?_
  refine cd_aload_n (i := 0) (v := .ref 64) d_Desk_certify_31 rfl rfl (cd_isr_ref _) ?_
  refine cd_get (v := .int (cd_i h16 64 12)) d_Desk_certify_32 fl_Desk_84 (cc_k64 F17) rfl ?_
  obtain ⟨c18, H⟩ := H
  refine cd_callV (kc := (kc + 0)) (ks := (ks + 0)) (kc' := 0) (ks' := 0) (As := [.int (cd_i h16 64 12)]) (S := []) d_Desk_certify_35 ca_Desk_certify_415 c18 rfl (Nat.le_of_ble_eq_true rfl) (Nat.le_of_ble_eq_true rfl) ?_
  refine cd_W.mono (fun r19 h20 H => ?_) H
  obtain ⟨rfl, H⟩ := H
  obtain ⟨F21, H⟩ := H
  show cd_W X m_Desk_certify (kc + 0) (ks + 0) 38 [some (.ref 64), some (.ref p1), some (.int p2), some (.int p3), some (.ref (cd_n h)), some (.int x7), some (.int x12), none, none] [] h20 Q
  refine cd_aload (i := 4) (v := .ref (cd_n h)) d_Desk_certify_38 rfl (cd_isr_ref _) ?_
  refine cd_aload_n (i := 0) (v := .ref 64) d_Desk_certify_40 rfl rfl (cd_isr_ref _) ?_
  refine cd_get (v := .int (cd_i h20 64 12)) d_Desk_certify_41 fl_Desk_84 (cc_k64 F21) rfl ?_
  refine cd_bipush (v := 20) d_Desk_certify_44 (by decide) ?_
  refine cd_iadd d_Desk_certify_46 ?_
  obtain ⟨c22, H⟩ := H
  refine cd_callV (kc := (kc + 0)) (ks := (ks + 0)) (kc' := 0) (ks' := 0) (As := [.int ((cd_i h20 64 12) + 20)]) (S := []) d_Desk_certify_47 ca_Desk_certify_415 c22 rfl (Nat.le_of_ble_eq_true rfl) (Nat.le_of_ble_eq_true rfl) ?_
  refine cd_W.mono (fun r23 h24 H => ?_) H
  obtain ⟨rfl, H⟩ := H
  obtain ⟨F25, H⟩ := H
  show cd_W X m_Desk_certify (kc + 0) (ks + 0) 50 [some (.ref 64), some (.ref p1), some (.int p2), some (.int p3), some (.ref (cd_n h)), some (.int x7), some (.int x12), none, none] [] h24 Q
  refine cd_aload (i := 4) (v := .ref (cd_n h)) d_Desk_certify_50 rfl (cd_isr_ref _) ?_
  refine cd_iload_n (i := 3) d_Desk_certify_52 rfl rfl ?_
  obtain ⟨c26, H⟩ := H
  refine cd_callV (kc := (kc + 0)) (ks := (ks + 0)) (kc' := 0) (ks' := 0) (As := [.int p3]) (S := []) d_Desk_certify_53 ca_Desk_certify_415 c26 rfl (Nat.le_of_ble_eq_true rfl) (Nat.le_of_ble_eq_true rfl) ?_
  refine cd_W.mono (fun r27 h28 H => ?_) H
  obtain ⟨rfl, H⟩ := H
  obtain ⟨F29, H⟩ := H
  show cd_W X m_Desk_certify (kc + 0) (ks + 0) 56 [some (.ref 64), some (.ref p1), some (.int p2), some (.int p3), some (.ref (cd_n h)), some (.int x7), some (.int x12), none, none] [] h28 Q
  refine cd_aload (i := 4) (v := .ref (cd_n h)) d_Desk_certify_56 rfl (cd_isr_ref _) ?_
  obtain ⟨c30, H⟩ := H
  refine cd_callV (kc := (kc + 0)) (ks := (ks + 0)) (kc' := 0) (ks' := 0) (As := []) (S := []) d_Desk_certify_58 ca_Desk_certify_412 c30 rfl (Nat.le_of_ble_eq_true rfl) (Nat.le_of_ble_eq_true rfl) ?_
  refine cd_W.mono (fun r31 h32 H => ?_) H
  obtain ⟨x33, rfl, H⟩ := H
  obtain ⟨F34, H⟩ := H
  show cd_W X m_Desk_certify (kc + 0) (ks + 0) 61 [some (.ref 64), some (.ref p1), some (.int p2), some (.int p3), some (.ref (cd_n h)), some (.int x7), some (.int x12), none, none] [.int x33] h32 Q
  refine cd_istore (i := 7) d_Desk_certify_61 (by decide) ?_
  show cd_W X m_Desk_certify (kc + 0) (ks + 0) 63 [some (.ref 64), some (.ref p1), some (.int p2), some (.int p3), some (.ref (cd_n h)), some (.int x7), some (.int x12), some (.int x33), none] [] h32 Q
  refine cd_iconst (v := 0) d_Desk_certify_63 (by decide) ?_
  refine cd_istore (i := 8) d_Desk_certify_64 (by decide) ?_
  show cd_W X m_Desk_certify (kc + 0) (ks + 0) 66 [some (.ref 64), some (.ref p1), some (.int p2), some (.int p3), some (.ref (cd_n h)), some (.int x7), some (.int x12), some (.int x33), some (.int 0)] [] h32 Q
  refine cd_W.drop (i := 2) ?_
  refine cd_W.drop (i := 3) ?_
  refine cd_W.budget (kc := kc) (ks := ks) (by omega) (by omega) ?_
  exact H

theorem d_Desk_certify_66 : decode prog_1_method_46_code 66 = .ok (.iload 8, 2) := by decide +kernel
theorem d_Desk_certify_68 : decode prog_1_method_46_code 68 = .ok (.aload_n 1, 1) := by decide +kernel
theorem d_Desk_certify_69 : decode prog_1_method_46_code 69 = .ok (.getfield 198, 3) := by decide +kernel
theorem d_Desk_certify_72 : decode prog_1_method_46_code 72 = .ok (.invokevirtual 135, 3) := by decide +kernel
theorem ca_Desk_certify_135 {X : cd_E} : cd_CV X m_Desk_certify m_AL_size 135 0 12 := ⟨⟨by decide, kw_2_11, kw_1_9, ⟨by decide, by decide, by decide +kernel⟩, by decide, by decide⟩, ⟨_, rfl, rfl⟩, kw_2_9, kw_2_10, (Or.inl kw_2_8)⟩
theorem d_Desk_certify_75 : decode prog_1_method_46_code 75 = .ok (.if_icmp .ge 29, 3) := by decide +kernel
theorem d_Desk_certify_104 : decode prog_1_method_46_code 104 = .ok (.aload 4, 2) := by decide +kernel
theorem d_Desk_certify_106 : decode prog_1_method_46_code 106 = .ok (.iload 7, 2) := by decide +kernel
theorem d_Desk_certify_108 : decode prog_1_method_46_code 108 = .ok (.invokevirtual 423, 3) := by decide +kernel
theorem kw_4_100 : (Jvm.Cond.methodLink "CertificateDesk" (423 : Nat) ({ cls := "CertificateDesk$Octets", name := "closeRow", desc := "(I)V" } : Jvm.MethodName)) ∈ cd_tbl := tb_4 (List.mem_of_getElem? (i := 100) (by decide +kernel)) (by decide)
theorem kw_4_103 : (Jvm.Cond.code ({ cls := "CertificateDesk$Octets", name := "closeRow", desc := "(I)V" } : Jvm.MethodName) prog_10_method_4_code (2 : Nat) (Option.none : Option Jvm.ClassFile.FieldType)) ∈ cd_tbl := tb_4 (List.mem_of_getElem? (i := 103) (by decide +kernel)) (by decide)
theorem kw_4_101 : (Jvm.Cond.instanceMethod ({ cls := "CertificateDesk$Octets", name := "closeRow", desc := "(I)V" } : Jvm.MethodName)) ∈ cd_tbl := tb_4 (List.mem_of_getElem? (i := 101) (by decide +kernel)) (by decide)
theorem kw_4_102 : (Jvm.Cond.selects "CertificateDesk$Octets" ({ cls := "CertificateDesk$Octets", name := "closeRow", desc := "(I)V" } : Jvm.MethodName) ({ cls := "CertificateDesk$Octets", name := "closeRow", desc := "(I)V" } : Jvm.MethodName)) ∈ cd_tbl := tb_4 (List.mem_of_getElem? (i := 102) (by decide +kernel)) (by decide)
theorem ca_Desk_certify_423 {X : cd_E} : cd_CV X m_Desk_certify m_Oct_closeRow 423 1 7 := ⟨⟨by decide, kw_4_103, kw_1_28, ⟨by decide, by decide, by decide +kernel⟩, by decide, by decide⟩, ⟨_, rfl, rfl⟩, kw_4_101, kw_4_102, (Or.inl kw_4_100)⟩
theorem d_Desk_certify_111 : decode prog_1_method_46_code 111 = .ok (.aload 4, 2) := by decide +kernel
theorem d_Desk_certify_113 : decode prog_1_method_46_code 113 = .ok (.iload 6, 2) := by decide +kernel
theorem d_Desk_certify_115 : decode prog_1_method_46_code 115 = .ok (.invokevirtual 423, 3) := by decide +kernel
theorem d_Desk_certify_118 : decode prog_1_method_46_code 118 = .ok (.aload 4, 2) := by decide +kernel
theorem d_Desk_certify_120 : decode prog_1_method_46_code 120 = .ok (.aload_n 0, 1) := by decide +kernel
theorem d_Desk_certify_121 : decode prog_1_method_46_code 121 = .ok (.getfield 30, 3) := by decide +kernel
theorem kw_1_144 : (Jvm.Cond.fieldLink "CertificateDesk" (30 : Nat) "CertificateDesk" "deskKey" "LCertificateDesk$Key;") ∈ cd_tbl := tb_1 (List.mem_of_getElem? (i := 144) (by decide +kernel)) (by decide)
theorem fl_Desk_30 {X : cd_E} : cd_FL X "CertificateDesk" 30 0 2 (.object "CertificateDesk$Key") := cd_FL.of rfl rfl (by decide) kw_1_144 (Or.inl rfl)
theorem d_Desk_certify_124 : decode prog_1_method_46_code 124 = .ok (.aload 4, 2) := by decide +kernel
theorem d_Desk_certify_126 : decode prog_1_method_46_code 126 = .ok (.iload 6, 2) := by decide +kernel
theorem d_Desk_certify_128 : decode prog_1_method_46_code 128 = .ok (.invokevirtual 426, 3) := by decide +kernel
theorem kw_4_104 : (Jvm.Cond.methodLink "CertificateDesk" (426 : Nat) ({ cls := "CertificateDesk$Octets", name := "digestFrom", desc := "(I)I" } : Jvm.MethodName)) ∈ cd_tbl := tb_4 (List.mem_of_getElem? (i := 104) (by decide +kernel)) (by decide)
theorem kw_4_107 : (Jvm.Cond.code ({ cls := "CertificateDesk$Octets", name := "digestFrom", desc := "(I)I" } : Jvm.MethodName) prog_10_method_8_code (4 : Nat) (Option.some Jvm.ClassFile.FieldType.int)) ∈ cd_tbl := tb_4 (List.mem_of_getElem? (i := 107) (by decide +kernel)) (by decide)
theorem kw_4_105 : (Jvm.Cond.instanceMethod ({ cls := "CertificateDesk$Octets", name := "digestFrom", desc := "(I)I" } : Jvm.MethodName)) ∈ cd_tbl := tb_4 (List.mem_of_getElem? (i := 105) (by decide +kernel)) (by decide)
theorem kw_4_106 : (Jvm.Cond.selects "CertificateDesk$Octets" ({ cls := "CertificateDesk$Octets", name := "digestFrom", desc := "(I)I" } : Jvm.MethodName) ({ cls := "CertificateDesk$Octets", name := "digestFrom", desc := "(I)I" } : Jvm.MethodName)) ∈ cd_tbl := tb_4 (List.mem_of_getElem? (i := 106) (by decide +kernel)) (by decide)
theorem ca_Desk_certify_426 {X : cd_E} : cd_CV X m_Desk_certify m_Oct_digestFrom 426 1 7 := ⟨⟨by decide, kw_4_107, kw_1_28, ⟨by decide, by decide, by decide +kernel⟩, by decide, by decide⟩, ⟨_, rfl, rfl⟩, kw_4_105, kw_4_106, (Or.inl kw_4_104)⟩
theorem d_Desk_certify_131 : decode prog_1_method_46_code 131 = .ok (.invokevirtual 240, 3) := by decide +kernel
theorem ca_Desk_certify_240 {X : cd_E} : cd_CV X m_Desk_certify m_Key_sign 240 1 4 := ⟨⟨by decide, kw_1_235, kw_1_2, ⟨by decide, by decide, by decide +kernel⟩, by decide, by decide⟩, ⟨_, rfl, rfl⟩, kw_1_233, kw_1_234, (Or.inl kw_1_232)⟩
theorem d_Desk_certify_134 : decode prog_1_method_46_code 134 = .ok (.invokevirtual 429, 3) := by decide +kernel
theorem kw_4_113 : (Jvm.Cond.methodLink "CertificateDesk" (429 : Nat) ({ cls := "CertificateDesk$Octets", name := "putSeal", desc := "(I)V" } : Jvm.MethodName)) ∈ cd_tbl := tb_4 (List.mem_of_getElem? (i := 113) (by decide +kernel)) (by decide)
theorem kw_4_116 : (Jvm.Cond.code ({ cls := "CertificateDesk$Octets", name := "putSeal", desc := "(I)V" } : Jvm.MethodName) prog_10_method_7_code (2 : Nat) (Option.none : Option Jvm.ClassFile.FieldType)) ∈ cd_tbl := tb_4 (List.mem_of_getElem? (i := 116) (by decide +kernel)) (by decide)
theorem kw_4_114 : (Jvm.Cond.instanceMethod ({ cls := "CertificateDesk$Octets", name := "putSeal", desc := "(I)V" } : Jvm.MethodName)) ∈ cd_tbl := tb_4 (List.mem_of_getElem? (i := 114) (by decide +kernel)) (by decide)
theorem kw_4_115 : (Jvm.Cond.selects "CertificateDesk$Octets" ({ cls := "CertificateDesk$Octets", name := "putSeal", desc := "(I)V" } : Jvm.MethodName) ({ cls := "CertificateDesk$Octets", name := "putSeal", desc := "(I)V" } : Jvm.MethodName)) ∈ cd_tbl := tb_4 (List.mem_of_getElem? (i := 115) (by decide +kernel)) (by decide)
theorem ca_Desk_certify_429 {X : cd_E} : cd_CV X m_Desk_certify m_Oct_putSeal 429 1 7 := ⟨⟨by decide, kw_4_116, kw_1_28, ⟨by decide, by decide, by decide +kernel⟩, by decide, by decide⟩, ⟨_, rfl, rfl⟩, kw_4_114, kw_4_115, (Or.inl kw_4_113)⟩
theorem d_Desk_certify_137 : decode prog_1_method_46_code 137 = .ok (.aload 4, 2) := by decide +kernel
theorem d_Desk_certify_139 : decode prog_1_method_46_code 139 = .ok (.iload 5, 2) := by decide +kernel
theorem d_Desk_certify_141 : decode prog_1_method_46_code 141 = .ok (.invokevirtual 423, 3) := by decide +kernel
theorem d_Desk_certify_144 : decode prog_1_method_46_code 144 = .ok (.aload 4, 2) := by decide +kernel
theorem d_Desk_certify_146 : decode prog_1_method_46_code 146 = .ok (.areturn, 1) := by decide +kernel
theorem d_Desk_certify_78 : decode prog_1_method_46_code 78 = .ok (.aload 4, 2) := by decide +kernel
theorem d_Desk_certify_80 : decode prog_1_method_46_code 80 = .ok (.aload_n 1, 1) := by decide +kernel
theorem d_Desk_certify_81 : decode prog_1_method_46_code 81 = .ok (.getfield 198, 3) := by decide +kernel
theorem d_Desk_certify_84 : decode prog_1_method_46_code 84 = .ok (.iload 8, 2) := by decide +kernel
theorem d_Desk_certify_86 : decode prog_1_method_46_code 86 = .ok (.invokevirtual 138, 3) := by decide +kernel
theorem ca_Desk_certify_138 {X : cd_E} : cd_CV X m_Desk_certify m_AL_get 138 1 12 := ⟨⟨by decide, kw_2_15, kw_1_9, ⟨by decide, by decide, by decide +kernel⟩, by decide, by decide⟩, ⟨_, rfl, rfl⟩, kw_2_13, kw_2_14, (Or.inl kw_2_12)⟩
theorem d_Desk_certify_89 : decode prog_1_method_46_code 89 = .ok (.checkcast 130, 3) := by decide +kernel
theorem d_Desk_certify_92 : decode prog_1_method_46_code 92 = .ok (.getfield 363, 3) := by decide +kernel
theorem d_Desk_certify_95 : decode prog_1_method_46_code 95 = .ok (.invokevirtual 419, 3) := by decide +kernel
theorem kw_4_94 : (Jvm.Cond.methodLink "CertificateDesk" (419 : Nat) ({ cls := "CertificateDesk$Octets", name := "putName", desc := "(Ljava/lang/String;)V" } : Jvm.MethodName)) ∈ cd_tbl := tb_4 (List.mem_of_getElem? (i := 94) (by decide +kernel)) (by decide)
theorem kw_4_97 : (Jvm.Cond.code ({ cls := "CertificateDesk$Octets", name := "putName", desc := "(Ljava/lang/String;)V" } : Jvm.MethodName) prog_10_method_6_code (3 : Nat) (Option.none : Option Jvm.ClassFile.FieldType)) ∈ cd_tbl := tb_4 (List.mem_of_getElem? (i := 97) (by decide +kernel)) (by decide)
theorem kw_4_95 : (Jvm.Cond.instanceMethod ({ cls := "CertificateDesk$Octets", name := "putName", desc := "(Ljava/lang/String;)V" } : Jvm.MethodName)) ∈ cd_tbl := tb_4 (List.mem_of_getElem? (i := 95) (by decide +kernel)) (by decide)
theorem kw_4_96 : (Jvm.Cond.selects "CertificateDesk$Octets" ({ cls := "CertificateDesk$Octets", name := "putName", desc := "(Ljava/lang/String;)V" } : Jvm.MethodName) ({ cls := "CertificateDesk$Octets", name := "putName", desc := "(Ljava/lang/String;)V" } : Jvm.MethodName)) ∈ cd_tbl := tb_4 (List.mem_of_getElem? (i := 96) (by decide +kernel)) (by decide)
theorem ca_Desk_certify_419 {X : cd_E} : cd_CV X m_Desk_certify m_Oct_putName 419 1 7 := ⟨⟨by decide, kw_4_97, kw_1_28, ⟨by decide, by decide, by decide +kernel⟩, by decide, by decide⟩, ⟨_, rfl, rfl⟩, kw_4_95, kw_4_96, (Or.inl kw_4_94)⟩
theorem d_Desk_certify_98 : decode prog_1_method_46_code 98 = .ok (.iinc 8 1, 3) := by decide +kernel
theorem d_Desk_certify_101 : decode prog_1_method_46_code 101 = .ok (.goto (-35), 3) := by decide +kernel
theorem g_Desk_certify_66 {X : cd_E} {kc ks : Nat} {h : cd_H} {Q : Option Value → cd_H → Prop} {v1 : Nat} {v4 : Nat} {v5 : Int32} {v6 : Int32} {v7 : Int32} {v8 : Int32} (F : cc_ok h) (H : (cd_k h v1 = some (.inl 8)) ∧ ((∃ b2 : Nat, (cd_r h v1 2) = some b2 ∧ ((cd_k h b2 = some (.inl 12)) ∧ (cd_W X m_AL_size 0 0 0 [some (.ref b2)] [] h (fun r5 h6 => ∃ x7 : Int32, r5 = some (.int x7) ∧ ((cc_ok h6) ∧ ((((x7 ≤ v8) → ((cd_k h6 v4 = some (.inl 7)) ∧ (cd_W X m_Oct_closeRow 0 0 0 [some (.ref v4), some (.int v7)] [] h6 (fun r11 h12 => (r11 = none) ∧ ((cc_ok h12) ∧ ((cd_k h12 v4 = some (.inl 7)) ∧ (cd_W X m_Oct_closeRow 0 0 0 [some (.ref v4), some (.int v6)] [] h12 (fun r15 h16 => (r15 = none) ∧ ((cc_ok h16) ∧ ((cd_k h16 v4 = some (.inl 7)) ∧ (cd_W X m_Oct_digestFrom 0 0 0 [some (.ref v4), some (.int v6), none, none] [] h16 (fun r19 h20 => ∃ x21 : Int32, r19 = some (.int x21) ∧ ((cc_ok h20) ∧ (cd_W X m_Key_sign 0 0 0 [some (.ref 70), some (.int x21)] [] h20 (fun r23 h24 => ∃ x25 : Int32, r23 = some (.int x25) ∧ ((cc_ok h24) ∧ ((cd_k h24 v4 = some (.inl 7)) ∧ (cd_W X m_Oct_putSeal 0 0 0 [some (.ref v4), some (.int x25)] [] h24 (fun r28 h29 => (r28 = none) ∧ ((cc_ok h29) ∧ ((cd_k h29 v4 = some (.inl 7)) ∧ (cd_W X m_Oct_closeRow 0 0 0 [some (.ref v4), some (.int v5)] [] h29 (fun r32 h33 => (r32 = none) ∧ ((cc_ok h33) ∧ (Q (some (.ref v4)) h33))))))))))))))))))))))))) ∧ ((¬ x7 ≤ v8) → ((cd_k h6 v1 = some (.inl 8)) ∧ ((∃ b36 : Nat, (cd_r h6 v1 2) = some b36 ∧ ((cd_k h6 b36 = some (.inl 12)) ∧ (cd_W X m_AL_get 0 0 0 [some (.ref b36), some (.int v8)] [] h6 (fun r39 h40 => ∃ o41 : Option Nat, r39 = some (va_rf o41) ∧ ((cc_ok h40) ∧ ((∃ b43 : Nat, o41 = some b43 ∧ ((cd_k h40 b43 = some (.inl 2)) ∧ ((∃ b46 : Nat, (cd_r h40 b43 2) = some b46 ∧ ((cd_k h40 v4 = some (.inl 7)) ∧ (cd_W X m_Oct_putName 0 0 0 [some (.ref v4), some (.ref b46), none] [] h40 (fun r49 h50 => (r49 = none) ∧ ((cc_ok h50) ∧ (cd_W X m_Desk_certify kc ks 66 [some (.ref 64), some (.ref v1), none, none, some (.ref v4), some (.int v5), some (.int v6), some (.int v7), some (.int (v8 + 1))] [] h50 Q))))))))))))))))))))))))))) : cd_W X m_Desk_certify kc ks 66 [some (.ref 64), some (.ref v1), none, none, some (.ref v4), some (.int v5), some (.int v6), some (.int v7), some (.int v8)] [] h Q := by
  refine cd_iload (i := 8) d_Desk_certify_66 rfl ?_
  refine cd_aload_n (i := 1) (v := .ref v1) d_Desk_certify_68 rfl rfl (cd_isr_ref _) ?_
  obtain ⟨c1, H⟩ := H
  refine cd_get (v := va_rf (cd_r h v1 2)) d_Desk_certify_69 fl_Desk_198 c1 rfl ?_
  obtain ⟨b2, e3, H⟩ := H
  rw [cd_rfs e3]
  obtain ⟨c4, H⟩ := H
  refine cd_callV (kc := kc) (ks := ks) (kc' := 0) (ks' := 0) (As := []) (S := [.int v8]) d_Desk_certify_72 ca_Desk_certify_135 c4 rfl (Nat.le_of_ble_eq_true rfl) (Nat.le_of_ble_eq_true rfl) ?_
  refine cd_W.mono (fun r5 h6 H => ?_) H
  obtain ⟨x7, rfl, H⟩ := H
  obtain ⟨F8, H⟩ := H
  show cd_W X m_Desk_certify kc ks 75 [some (.ref 64), some (.ref v1), none, none, some (.ref v4), some (.int v5), some (.int v6), some (.int v7), some (.int v8)] [.int x7, .int v8] h6 Q
  refine cd_icmp_ge (tgt := 104) d_Desk_certify_75 (by decide) (fun t9 => ?_) (fun t9 => ?_)
  · replace H := H.1 t9
    refine cd_aload (i := 4) (v := .ref v4) d_Desk_certify_104 rfl (cd_isr_ref _) ?_
    refine cd_iload (i := 7) d_Desk_certify_106 rfl ?_
    obtain ⟨c10, H⟩ := H
    refine cd_callV (kc := kc) (ks := ks) (kc' := 0) (ks' := 0) (As := [.int v7]) (S := []) d_Desk_certify_108 ca_Desk_certify_423 c10 rfl (Nat.le_of_ble_eq_true rfl) (Nat.le_of_ble_eq_true rfl) ?_
    refine cd_W.mono (fun r11 h12 H => ?_) H
    obtain ⟨rfl, H⟩ := H
    obtain ⟨F13, H⟩ := H
    show cd_W X m_Desk_certify kc ks 111 [some (.ref 64), some (.ref v1), none, none, some (.ref v4), some (.int v5), some (.int v6), some (.int v7), some (.int v8)] [] h12 Q
    refine cd_aload (i := 4) (v := .ref v4) d_Desk_certify_111 rfl (cd_isr_ref _) ?_
    refine cd_iload (i := 6) d_Desk_certify_113 rfl ?_
    obtain ⟨c14, H⟩ := H
    refine cd_callV (kc := kc) (ks := ks) (kc' := 0) (ks' := 0) (As := [.int v6]) (S := []) d_Desk_certify_115 ca_Desk_certify_423 c14 rfl (Nat.le_of_ble_eq_true rfl) (Nat.le_of_ble_eq_true rfl) ?_
    refine cd_W.mono (fun r15 h16 H => ?_) H
    obtain ⟨rfl, H⟩ := H
    obtain ⟨F17, H⟩ := H
    show cd_W X m_Desk_certify kc ks 118 [some (.ref 64), some (.ref v1), none, none, some (.ref v4), some (.int v5), some (.int v6), some (.int v7), some (.int v8)] [] h16 Q
    refine cd_aload (i := 4) (v := .ref v4) d_Desk_certify_118 rfl (cd_isr_ref _) ?_
    refine cd_aload_n (i := 0) (v := .ref 64) d_Desk_certify_120 rfl rfl (cd_isr_ref _) ?_
    refine cd_get (v := .ref 70) d_Desk_certify_121 fl_Desk_30 (cc_k64 F17) (congrArg va_rf (cc_r64_2 F17)) ?_
    refine cd_aload (i := 4) (v := .ref v4) d_Desk_certify_124 rfl (cd_isr_ref _) ?_
    refine cd_iload (i := 6) d_Desk_certify_126 rfl ?_
    obtain ⟨c18, H⟩ := H
    refine cd_callV (kc := kc) (ks := ks) (kc' := 0) (ks' := 0) (As := [.int v6]) (S := [.ref 70, .ref v4]) d_Desk_certify_128 ca_Desk_certify_426 c18 rfl (Nat.le_of_ble_eq_true rfl) (Nat.le_of_ble_eq_true rfl) ?_
    refine cd_W.mono (fun r19 h20 H => ?_) H
    obtain ⟨x21, rfl, H⟩ := H
    obtain ⟨F22, H⟩ := H
    show cd_W X m_Desk_certify kc ks 131 [some (.ref 64), some (.ref v1), none, none, some (.ref v4), some (.int v5), some (.int v6), some (.int v7), some (.int v8)] [.int x21, .ref 70, .ref v4] h20 Q
    refine cd_callV (kc := kc) (ks := ks) (kc' := 0) (ks' := 0) (As := [.int x21]) (S := [.ref v4]) d_Desk_certify_131 ca_Desk_certify_240 (cc_k70 F22) rfl (Nat.le_of_ble_eq_true rfl) (Nat.le_of_ble_eq_true rfl) ?_
    refine cd_W.mono (fun r23 h24 H => ?_) H
    obtain ⟨x25, rfl, H⟩ := H
    obtain ⟨F26, H⟩ := H
    show cd_W X m_Desk_certify kc ks 134 [some (.ref 64), some (.ref v1), none, none, some (.ref v4), some (.int v5), some (.int v6), some (.int v7), some (.int v8)] [.int x25, .ref v4] h24 Q
    obtain ⟨c27, H⟩ := H
    refine cd_callV (kc := kc) (ks := ks) (kc' := 0) (ks' := 0) (As := [.int x25]) (S := []) d_Desk_certify_134 ca_Desk_certify_429 c27 rfl (Nat.le_of_ble_eq_true rfl) (Nat.le_of_ble_eq_true rfl) ?_
    refine cd_W.mono (fun r28 h29 H => ?_) H
    obtain ⟨rfl, H⟩ := H
    obtain ⟨F30, H⟩ := H
    show cd_W X m_Desk_certify kc ks 137 [some (.ref 64), some (.ref v1), none, none, some (.ref v4), some (.int v5), some (.int v6), some (.int v7), some (.int v8)] [] h29 Q
    refine cd_aload (i := 4) (v := .ref v4) d_Desk_certify_137 rfl (cd_isr_ref _) ?_
    refine cd_iload (i := 5) d_Desk_certify_139 rfl ?_
    obtain ⟨c31, H⟩ := H
    refine cd_callV (kc := kc) (ks := ks) (kc' := 0) (ks' := 0) (As := [.int v5]) (S := []) d_Desk_certify_141 ca_Desk_certify_423 c31 rfl (Nat.le_of_ble_eq_true rfl) (Nat.le_of_ble_eq_true rfl) ?_
    refine cd_W.mono (fun r32 h33 H => ?_) H
    obtain ⟨rfl, H⟩ := H
    obtain ⟨F34, H⟩ := H
    show cd_W X m_Desk_certify kc ks 144 [some (.ref 64), some (.ref v1), none, none, some (.ref v4), some (.int v5), some (.int v6), some (.int v7), some (.int v8)] [] h33 Q
    refine cd_aload (i := 4) (v := .ref v4) d_Desk_certify_144 rfl (cd_isr_ref _) ?_
    exact cd_aret d_Desk_certify_146 rfl (Or.inl ⟨_, rfl⟩) (cd_isr_ref _) H
  · replace H := H.2 t9
    refine cd_aload (i := 4) (v := .ref v4) d_Desk_certify_78 rfl (cd_isr_ref _) ?_
    refine cd_aload_n (i := 1) (v := .ref v1) d_Desk_certify_80 rfl rfl (cd_isr_ref _) ?_
    obtain ⟨c35, H⟩ := H
    refine cd_get (v := va_rf (cd_r h6 v1 2)) d_Desk_certify_81 fl_Desk_198 c35 rfl ?_
    refine cd_iload (i := 8) d_Desk_certify_84 rfl ?_
    obtain ⟨b36, e37, H⟩ := H
    rw [cd_rfs e37]
    obtain ⟨c38, H⟩ := H
    refine cd_callV (kc := kc) (ks := ks) (kc' := 0) (ks' := 0) (As := [.int v8]) (S := [.ref v4]) d_Desk_certify_86 ca_Desk_certify_138 c38 rfl (Nat.le_of_ble_eq_true rfl) (Nat.le_of_ble_eq_true rfl) ?_
    refine cd_W.mono (fun r39 h40 H => ?_) H
    obtain ⟨o41, rfl, H⟩ := H
    obtain ⟨F42, H⟩ := H
    show cd_W X m_Desk_certify kc ks 89 [some (.ref 64), some (.ref v1), none, none, some (.ref v4), some (.int v5), some (.int v6), some (.int v7), some (.int v8)] [va_rf o41, .ref v4] h40 Q
    obtain ⟨b43, e44, H⟩ := H
    rw [cd_rfs e44]
    obtain ⟨c45, H⟩ := H
    refine cd_cast d_Desk_certify_89 rfl ⟨kw_2_151, kw_3_208⟩ c45 ?_
    refine cd_get (v := va_rf (cd_r h40 b43 2)) d_Desk_certify_92 fl_Desk_363 c45 rfl ?_
    obtain ⟨b46, e47, H⟩ := H
    rw [cd_rfs e47]
    obtain ⟨c48, H⟩ := H
    refine cd_callV (kc := kc) (ks := ks) (kc' := 0) (ks' := 0) (As := [.ref b46]) (S := []) d_Desk_certify_95 ca_Desk_certify_419 c48 rfl (Nat.le_of_ble_eq_true rfl) (Nat.le_of_ble_eq_true rfl) ?_
    refine cd_W.mono (fun r49 h50 H => ?_) H
    obtain ⟨rfl, H⟩ := H
    obtain ⟨F51, H⟩ := H
    show cd_W X m_Desk_certify kc ks 98 [some (.ref 64), some (.ref v1), none, none, some (.ref v4), some (.int v5), some (.int v6), some (.int v7), some (.int v8)] [] h50 Q
    refine cd_iinc (i := 8) (v := (v8 + 1)) d_Desk_certify_98 rfl (cd_inc1 _) (by decide) ?_
    show cd_W X m_Desk_certify kc ks 101 [some (.ref 64), some (.ref v1), none, none, some (.ref v4), some (.int v5), some (.int v6), some (.int v7), some (.int (v8 + 1))] [] h50 Q
    refine cd_goto (tgt := 66) d_Desk_certify_101 (by decide) ?_
    exact H

abbrev m_Desk_isAmongStrings : cd_M := (⟨"CertificateDesk", "isAmongStrings", "(Ljava/lang/String;I)Z"⟩, prog_1_method_45_code, 4, some .boolean, 28, 615)
theorem d_Desk_isAmongStrings_0 : decode prog_1_method_45_code 0 = .ok (.iconst 0, 1) := by decide +kernel
theorem d_Desk_isAmongStrings_1 : decode prog_1_method_45_code 1 = .ok (.istore_n 3, 1) := by decide +kernel
theorem g_Desk_isAmongStrings {X : cd_E} {kc ks : Nat} {h : cd_H} {Q : Option Value → cd_H → Prop} {p1 : Nat} {p2 : Int32} (F : cc_ok h) (H : cd_W X m_Desk_isAmongStrings kc ks 2 [some (.ref 64), some (.ref p1), some (.int p2), some (.int 0)] [] h Q) : cd_W X m_Desk_isAmongStrings kc ks 0 [some (.ref 64), some (.ref p1), some (.int p2), none] [] h Q := by
  refine cd_iconst (v := 0) d_Desk_isAmongStrings_0 (by decide) ?_
  refine cd_istore_n (i := 3) d_Desk_isAmongStrings_1 rfl (by decide) ?_
  show cd_W X m_Desk_isAmongStrings kc ks 2 [some (.ref 64), some (.ref p1), some (.int p2), some (.int 0)] [] h Q
  exact H

theorem d_Desk_isAmongStrings_2 : decode prog_1_method_45_code 2 = .ok (.iload_n 3, 1) := by decide +kernel
theorem d_Desk_isAmongStrings_3 : decode prog_1_method_45_code 3 = .ok (.iload_n 2, 1) := by decide +kernel
theorem d_Desk_isAmongStrings_4 : decode prog_1_method_45_code 4 = .ok (.if_icmp .ge 37, 3) := by decide +kernel
theorem d_Desk_isAmongStrings_41 : decode prog_1_method_45_code 41 = .ok (.iconst 0, 1) := by decide +kernel
theorem d_Desk_isAmongStrings_42 : decode prog_1_method_45_code 42 = .ok (.ireturn, 1) := by decide +kernel
theorem d_Desk_isAmongStrings_7 : decode prog_1_method_45_code 7 = .ok (.iload_n 3, 1) := by decide +kernel
theorem d_Desk_isAmongStrings_8 : decode prog_1_method_45_code 8 = .ok (.aload_n 0, 1) := by decide +kernel
theorem d_Desk_isAmongStrings_9 : decode prog_1_method_45_code 9 = .ok (.getfield 41, 3) := by decide +kernel
theorem d_Desk_isAmongStrings_12 : decode prog_1_method_45_code 12 = .ok (.arraylength, 1) := by decide +kernel
theorem d_Desk_isAmongStrings_13 : decode prog_1_method_45_code 13 = .ok (.if_icmp .ge 28, 3) := by decide +kernel
theorem d_Desk_isAmongStrings_16 : decode prog_1_method_45_code 16 = .ok (.aload_n 0, 1) := by decide +kernel
theorem d_Desk_isAmongStrings_17 : decode prog_1_method_45_code 17 = .ok (.getfield 37, 3) := by decide +kernel
theorem d_Desk_isAmongStrings_20 : decode prog_1_method_45_code 20 = .ok (.aload_n 0, 1) := by decide +kernel
theorem d_Desk_isAmongStrings_21 : decode prog_1_method_45_code 21 = .ok (.getfield 41, 3) := by decide +kernel
theorem d_Desk_isAmongStrings_24 : decode prog_1_method_45_code 24 = .ok (.iload_n 3, 1) := by decide +kernel
theorem d_Desk_isAmongStrings_25 : decode prog_1_method_45_code 25 = .ok (.iaload, 1) := by decide +kernel
theorem d_Desk_isAmongStrings_26 : decode prog_1_method_45_code 26 = .ok (.aload_n 1, 1) := by decide +kernel
theorem d_Desk_isAmongStrings_27 : decode prog_1_method_45_code 27 = .ok (.invokevirtual 294, 3) := by decide +kernel
theorem ca_Desk_isAmongStrings_294 {X : cd_E} : cd_CV X m_Desk_isAmongStrings m_Not_spells 294 2 6 := ⟨⟨by decide, kw_2_74, kw_1_3, ⟨by decide, by decide, by decide +kernel⟩, by decide, by decide⟩, ⟨_, rfl, rfl⟩, kw_2_72, kw_2_73, (Or.inl kw_2_122)⟩
theorem d_Desk_isAmongStrings_30 : decode prog_1_method_45_code 30 = .ok (.ifCond .eq 5, 3) := by decide +kernel
theorem d_Desk_isAmongStrings_35 : decode prog_1_method_45_code 35 = .ok (.iinc 3 1, 3) := by decide +kernel
theorem d_Desk_isAmongStrings_38 : decode prog_1_method_45_code 38 = .ok (.goto (-36), 3) := by decide +kernel
theorem d_Desk_isAmongStrings_33 : decode prog_1_method_45_code 33 = .ok (.iconst 1, 1) := by decide +kernel
theorem d_Desk_isAmongStrings_34 : decode prog_1_method_45_code 34 = .ok (.ireturn, 1) := by decide +kernel
theorem g_Desk_isAmongStrings_2 {X : cd_E} {kc ks : Nat} {h : cd_H} {Q : Option Value → cd_H → Prop} {v1 : Nat} {v2 : Int32} {v3 : Int32} (F : cc_ok h) (H : (((v2 ≤ v3) → (Q (some (.int 0)) h)) ∧ ((¬ v2 ≤ v3) → (((((nI 32) ≤ v3) → (Q (some (.int 0)) h)) ∧ ((¬ (nI 32) ≤ v3) → ((vp_in v3 32) ∧ (cd_W X m_Not_spells 0 0 0 [some (.ref 71), some (.int (cd_i h 73 v3.toNatClampNeg)), some (.ref v1), none, none] [] h (fun r4 h5 => ∃ x6 : Int32, r4 = some (.int x6) ∧ ((cc_ok h5) ∧ ((((x6 = 0) → (cd_W X m_Desk_isAmongStrings kc ks 2 [some (.ref 64), some (.ref v1), some (.int v2), some (.int (v3 + 1))] [] h5 Q)) ∧ ((¬ x6 = 0) → (Q (some (.int 1)) h5)))))))))))))) : cd_W X m_Desk_isAmongStrings kc ks 2 [some (.ref 64), some (.ref v1), some (.int v2), some (.int v3)] [] h Q := by
  refine cd_iload_n (i := 3) d_Desk_isAmongStrings_2 rfl rfl ?_
  refine cd_iload_n (i := 2) d_Desk_isAmongStrings_3 rfl rfl ?_
  refine cd_icmp_ge (tgt := 41) d_Desk_isAmongStrings_4 (by decide) (fun t1 => ?_) (fun t1 => ?_)
  · replace H := H.1 t1
    refine cd_iconst (v := 0) d_Desk_isAmongStrings_41 (by decide) ?_
    exact cd_iret d_Desk_isAmongStrings_42 rfl rfl H
  · replace H := H.2 t1
    refine cd_iload_n (i := 3) d_Desk_isAmongStrings_7 rfl rfl ?_
    refine cd_aload_n (i := 0) (v := .ref 64) d_Desk_isAmongStrings_8 rfl rfl (cd_isr_ref _) ?_
    refine cd_get (v := .ref 73) d_Desk_isAmongStrings_9 fl_Desk_41 (cc_k64 F) (congrArg va_rf (cc_r64_4 F)) ?_
    refine cd_alen d_Desk_isAmongStrings_12 rfl (cc_k73 F) ?_
    refine cd_icmp_ge (tgt := 41) d_Desk_isAmongStrings_13 (by decide) (fun t2 => ?_) (fun t2 => ?_)
    · replace H := H.1 t2
      refine cd_iconst (v := 0) d_Desk_isAmongStrings_41 (by decide) ?_
      exact cd_iret d_Desk_isAmongStrings_42 rfl rfl H
    · replace H := H.2 t2
      refine cd_aload_n (i := 0) (v := .ref 64) d_Desk_isAmongStrings_16 rfl rfl (cd_isr_ref _) ?_
      refine cd_get (v := .ref 71) d_Desk_isAmongStrings_17 fl_Desk_37 (cc_k64 F) (congrArg va_rf (cc_r64_3 F)) ?_
      refine cd_aload_n (i := 0) (v := .ref 64) d_Desk_isAmongStrings_20 rfl rfl (cd_isr_ref _) ?_
      refine cd_get (v := .ref 73) d_Desk_isAmongStrings_21 fl_Desk_41 (cc_k64 F) (congrArg va_rf (cc_r64_4 F)) ?_
      refine cd_iload_n (i := 3) d_Desk_isAmongStrings_24 rfl rfl ?_
      obtain ⟨c3, H⟩ := H
      refine cd_iald (j := v3) d_Desk_isAmongStrings_25 rfl (cc_k73 F) c3 ?_
      refine cd_aload_n (i := 1) (v := .ref v1) d_Desk_isAmongStrings_26 rfl rfl (cd_isr_ref _) ?_
      refine cd_callV (kc := kc) (ks := ks) (kc' := 0) (ks' := 0) (As := [.int (cd_i h 73 v3.toNatClampNeg), .ref v1]) (S := []) d_Desk_isAmongStrings_27 ca_Desk_isAmongStrings_294 (cc_k71 F) rfl (Nat.le_of_ble_eq_true rfl) (Nat.le_of_ble_eq_true rfl) ?_
      refine cd_W.mono (fun r4 h5 H => ?_) H
      obtain ⟨x6, rfl, H⟩ := H
      obtain ⟨F7, H⟩ := H
      show cd_W X m_Desk_isAmongStrings kc ks 30 [some (.ref 64), some (.ref v1), some (.int v2), some (.int v3)] [.int x6] h5 Q
      refine cd_if_eq (tgt := 35) d_Desk_isAmongStrings_30 (by decide) (fun t8 => ?_) (fun t8 => ?_)
      · replace H := H.1 t8
        refine cd_iinc (i := 3) (v := (v3 + 1)) d_Desk_isAmongStrings_35 rfl (cd_inc1 _) (by decide) ?_
        show cd_W X m_Desk_isAmongStrings kc ks 38 [some (.ref 64), some (.ref v1), some (.int v2), some (.int (v3 + 1))] [] h5 Q
        refine cd_goto (tgt := 2) d_Desk_isAmongStrings_38 (by decide) ?_
        exact H
      · replace H := H.2 t8
        refine cd_iconst (v := 1) d_Desk_isAmongStrings_33 (by decide) ?_
        exact cd_iret d_Desk_isAmongStrings_34 rfl rfl H

abbrev m_Desk_areNamesOf : cd_M := (⟨"CertificateDesk", "areNamesOf", "(LCertificateDesk$Order;I)Z"⟩, prog_1_method_44_code, 4, some .boolean, 29, 638)
theorem d_Desk_areNamesOf_0 : decode prog_1_method_44_code 0 = .ok (.iload_n 2, 1) := by decide +kernel
theorem d_Desk_areNamesOf_1 : decode prog_1_method_44_code 1 = .ok (.aload_n 1, 1) := by decide +kernel
theorem d_Desk_areNamesOf_2 : decode prog_1_method_44_code 2 = .ok (.getfield 198, 3) := by decide +kernel
theorem d_Desk_areNamesOf_5 : decode prog_1_method_44_code 5 = .ok (.invokevirtual 135, 3) := by decide +kernel
theorem ca_Desk_areNamesOf_135 {X : cd_E} : cd_CV X m_Desk_areNamesOf m_AL_size 135 0 12 := ⟨⟨by decide, kw_2_11, kw_1_9, ⟨by decide, by decide, by decide +kernel⟩, by decide, by decide⟩, ⟨_, rfl, rfl⟩, kw_2_9, kw_2_10, (Or.inl kw_2_8)⟩
theorem d_Desk_areNamesOf_8 : decode prog_1_method_44_code 8 = .ok (.if_icmp .eq 5, 3) := by decide +kernel
theorem d_Desk_areNamesOf_13 : decode prog_1_method_44_code 13 = .ok (.iconst 0, 1) := by decide +kernel
theorem d_Desk_areNamesOf_14 : decode prog_1_method_44_code 14 = .ok (.istore_n 3, 1) := by decide +kernel
theorem d_Desk_areNamesOf_11 : decode prog_1_method_44_code 11 = .ok (.iconst 0, 1) := by decide +kernel
theorem d_Desk_areNamesOf_12 : decode prog_1_method_44_code 12 = .ok (.ireturn, 1) := by decide +kernel
theorem g_Desk_areNamesOf {X : cd_E} {kc ks : Nat} {h : cd_H} {Q : Option Value → cd_H → Prop} {p1 : Nat} {p2 : Int32} (F : cc_ok h) (H : (cd_k h p1 = some (.inl 8)) ∧ ((∃ b2 : Nat, (cd_r h p1 2) = some b2 ∧ ((cd_k h b2 = some (.inl 12)) ∧ (cd_W X m_AL_size 0 0 0 [some (.ref b2)] [] h (fun r5 h6 => ∃ x7 : Int32, r5 = some (.int x7) ∧ ((cc_ok h6) ∧ ((((p2 = x7) → (cd_W X m_Desk_areNamesOf kc ks 15 [some (.ref 64), some (.ref p1), some (.int p2), some (.int 0)] [] h6 Q)) ∧ ((¬ p2 = x7) → (Q (some (.int 0)) h6))))))))))) : cd_W X m_Desk_areNamesOf kc ks 0 [some (.ref 64), some (.ref p1), some (.int p2), none] [] h Q := by
  refine cd_iload_n (i := 2) d_Desk_areNamesOf_0 rfl rfl ?_
  refine cd_aload_n (i := 1) (v := .ref p1) d_Desk_areNamesOf_1 rfl rfl (cd_isr_ref _) ?_
  obtain ⟨c1, H⟩ := H
  refine cd_get (v := va_rf (cd_r h p1 2)) d_Desk_areNamesOf_2 fl_Desk_198 c1 rfl ?_
  obtain ⟨b2, e3, H⟩ := H
  rw [cd_rfs e3]
  obtain ⟨c4, H⟩ := H
  refine cd_callV (kc := kc) (ks := ks) (kc' := 0) (ks' := 0) (As := []) (S := [.int p2]) d_Desk_areNamesOf_5 ca_Desk_areNamesOf_135 c4 rfl (Nat.le_of_ble_eq_true rfl) (Nat.le_of_ble_eq_true rfl) ?_
  refine cd_W.mono (fun r5 h6 H => ?_) H
  obtain ⟨x7, rfl, H⟩ := H
  obtain ⟨F8, H⟩ := H
  show cd_W X m_Desk_areNamesOf kc ks 8 [some (.ref 64), some (.ref p1), some (.int p2), none] [.int x7, .int p2] h6 Q
  refine cd_icmp_eq (tgt := 13) d_Desk_areNamesOf_8 (by decide) (fun t9 => ?_) (fun t9 => ?_)
  · replace H := H.1 t9
    refine cd_iconst (v := 0) d_Desk_areNamesOf_13 (by decide) ?_
    refine cd_istore_n (i := 3) d_Desk_areNamesOf_14 rfl (by decide) ?_
    show cd_W X m_Desk_areNamesOf kc ks 15 [some (.ref 64), some (.ref p1), some (.int p2), some (.int 0)] [] h6 Q
    exact H
  · replace H := H.2 t9
    refine cd_iconst (v := 0) d_Desk_areNamesOf_11 (by decide) ?_
    exact cd_iret d_Desk_areNamesOf_12 rfl rfl H

theorem d_Desk_areNamesOf_15 : decode prog_1_method_44_code 15 = .ok (.iload_n 3, 1) := by decide +kernel
theorem d_Desk_areNamesOf_16 : decode prog_1_method_44_code 16 = .ok (.aload_n 1, 1) := by decide +kernel
theorem d_Desk_areNamesOf_17 : decode prog_1_method_44_code 17 = .ok (.getfield 198, 3) := by decide +kernel
theorem d_Desk_areNamesOf_20 : decode prog_1_method_44_code 20 = .ok (.invokevirtual 135, 3) := by decide +kernel
theorem d_Desk_areNamesOf_23 : decode prog_1_method_44_code 23 = .ok (.if_icmp .ge 33, 3) := by decide +kernel
theorem d_Desk_areNamesOf_56 : decode prog_1_method_44_code 56 = .ok (.iconst 1, 1) := by decide +kernel
theorem d_Desk_areNamesOf_57 : decode prog_1_method_44_code 57 = .ok (.ireturn, 1) := by decide +kernel
theorem d_Desk_areNamesOf_26 : decode prog_1_method_44_code 26 = .ok (.aload_n 0, 1) := by decide +kernel
theorem d_Desk_areNamesOf_27 : decode prog_1_method_44_code 27 = .ok (.aload_n 1, 1) := by decide +kernel
theorem d_Desk_areNamesOf_28 : decode prog_1_method_44_code 28 = .ok (.getfield 198, 3) := by decide +kernel
theorem d_Desk_areNamesOf_31 : decode prog_1_method_44_code 31 = .ok (.iload_n 3, 1) := by decide +kernel
theorem d_Desk_areNamesOf_32 : decode prog_1_method_44_code 32 = .ok (.invokevirtual 138, 3) := by decide +kernel
theorem ca_Desk_areNamesOf_138 {X : cd_E} : cd_CV X m_Desk_areNamesOf m_AL_get 138 1 12 := ⟨⟨by decide, kw_2_15, kw_1_9, ⟨by decide, by decide, by decide +kernel⟩, by decide, by decide⟩, ⟨_, rfl, rfl⟩, kw_2_13, kw_2_14, (Or.inl kw_2_12)⟩
theorem d_Desk_areNamesOf_35 : decode prog_1_method_44_code 35 = .ok (.checkcast 130, 3) := by decide +kernel
theorem d_Desk_areNamesOf_38 : decode prog_1_method_44_code 38 = .ok (.getfield 363, 3) := by decide +kernel
theorem d_Desk_areNamesOf_41 : decode prog_1_method_44_code 41 = .ok (.iload_n 2, 1) := by decide +kernel
theorem d_Desk_areNamesOf_42 : decode prog_1_method_44_code 42 = .ok (.invokevirtual 407, 3) := by decide +kernel
theorem kw_4_54 : (Jvm.Cond.methodLink "CertificateDesk" (407 : Nat) ({ cls := "CertificateDesk", name := "isAmongStrings", desc := "(Ljava/lang/String;I)Z" } : Jvm.MethodName)) ∈ cd_tbl := tb_4 (List.mem_of_getElem? (i := 54) (by decide +kernel)) (by decide)
theorem kw_4_57 : (Jvm.Cond.code ({ cls := "CertificateDesk", name := "isAmongStrings", desc := "(Ljava/lang/String;I)Z" } : Jvm.MethodName) prog_1_method_45_code (4 : Nat) (Option.some Jvm.ClassFile.FieldType.boolean)) ∈ cd_tbl := tb_4 (List.mem_of_getElem? (i := 57) (by decide +kernel)) (by decide)
theorem kw_4_56 : (Jvm.Cond.instanceMethod ({ cls := "CertificateDesk", name := "isAmongStrings", desc := "(Ljava/lang/String;I)Z" } : Jvm.MethodName)) ∈ cd_tbl := tb_4 (List.mem_of_getElem? (i := 56) (by decide +kernel)) (by decide)
theorem kp_29 : Cond.selects "CertificateDesk" ⟨"CertificateDesk", "isAmongStrings", "(Ljava/lang/String;I)Z"⟩ ⟨"CertificateDesk", "isAmongStrings", "(Ljava/lang/String;I)Z"⟩ ∈ cd_tbl := cd_sel (List.mem_of_getElem? (i := 29) (by decide +kernel)) (by decide)
theorem ca_Desk_areNamesOf_407 {X : cd_E} : cd_CV X m_Desk_areNamesOf m_Desk_isAmongStrings 407 2 0 := ⟨⟨by decide, kw_4_57, kw_1_1, ⟨by decide, by decide, by decide +kernel⟩, by decide, by decide⟩, ⟨_, rfl, rfl⟩, kw_4_56, kp_29, (Or.inl kw_4_54)⟩
theorem d_Desk_areNamesOf_45 : decode prog_1_method_44_code 45 = .ok (.ifCond .ne 5, 3) := by decide +kernel
theorem d_Desk_areNamesOf_50 : decode prog_1_method_44_code 50 = .ok (.iinc 3 1, 3) := by decide +kernel
theorem d_Desk_areNamesOf_53 : decode prog_1_method_44_code 53 = .ok (.goto (-38), 3) := by decide +kernel
theorem d_Desk_areNamesOf_48 : decode prog_1_method_44_code 48 = .ok (.iconst 0, 1) := by decide +kernel
theorem d_Desk_areNamesOf_49 : decode prog_1_method_44_code 49 = .ok (.ireturn, 1) := by decide +kernel
theorem g_Desk_areNamesOf_15 {X : cd_E} {kc ks : Nat} {h : cd_H} {Q : Option Value → cd_H → Prop} {v1 : Nat} {v2 : Int32} {v3 : Int32} (F : cc_ok h) (H : (cd_k h v1 = some (.inl 8)) ∧ ((∃ b2 : Nat, (cd_r h v1 2) = some b2 ∧ ((cd_k h b2 = some (.inl 12)) ∧ (cd_W X m_AL_size 0 0 0 [some (.ref b2)] [] h (fun r5 h6 => ∃ x7 : Int32, r5 = some (.int x7) ∧ ((cc_ok h6) ∧ ((((x7 ≤ v3) → (Q (some (.int 1)) h6)) ∧ ((¬ x7 ≤ v3) → ((cd_k h6 v1 = some (.inl 8)) ∧ ((∃ b11 : Nat, (cd_r h6 v1 2) = some b11 ∧ ((cd_k h6 b11 = some (.inl 12)) ∧ (cd_W X m_AL_get 0 0 0 [some (.ref b11), some (.int v3)] [] h6 (fun r14 h15 => ∃ o16 : Option Nat, r14 = some (va_rf o16) ∧ ((cc_ok h15) ∧ ((∃ b18 : Nat, o16 = some b18 ∧ ((cd_k h15 b18 = some (.inl 2)) ∧ ((∃ b21 : Nat, (cd_r h15 b18 2) = some b21 ∧ (cd_W X m_Desk_isAmongStrings 0 0 0 [some (.ref 64), some (.ref b21), some (.int v2), none] [] h15 (fun r23 h24 => ∃ x25 : Int32, r23 = some (.int x25) ∧ ((cc_ok h24) ∧ ((((¬ x25 = 0) → (cd_W X m_Desk_areNamesOf kc ks 15 [some (.ref 64), some (.ref v1), some (.int v2), some (.int (v3 + 1))] [] h24 Q)) ∧ ((x25 = 0) → (Q (some (.int 0)) h24))))))))))))))))))))))))))))) : cd_W X m_Desk_areNamesOf kc ks 15 [some (.ref 64), some (.ref v1), some (.int v2), some (.int v3)] [] h Q := by
  refine cd_iload_n (i := 3) d_Desk_areNamesOf_15 rfl rfl ?_
  refine cd_aload_n (i := 1) (v := .ref v1) d_Desk_areNamesOf_16 rfl rfl (cd_isr_ref _) ?_
  obtain ⟨c1, H⟩ := H
  refine cd_get (v := va_rf (cd_r h v1 2)) d_Desk_areNamesOf_17 fl_Desk_198 c1 rfl ?_
  obtain ⟨b2, e3, H⟩ := H
  rw [cd_rfs e3]
  obtain ⟨c4, H⟩ := H
  refine cd_callV (kc := kc) (ks := ks) (kc' := 0) (ks' := 0) (As := []) (S := [.int v3]) d_Desk_areNamesOf_20 ca_Desk_areNamesOf_135 c4 rfl (Nat.le_of_ble_eq_true rfl) (Nat.le_of_ble_eq_true rfl) ?_
  refine cd_W.mono (fun r5 h6 H => ?_) H
  obtain ⟨x7, rfl, H⟩ := H
  obtain ⟨F8, H⟩ := H
  show cd_W X m_Desk_areNamesOf kc ks 23 [some (.ref 64), some (.ref v1), some (.int v2), some (.int v3)] [.int x7, .int v3] h6 Q
  refine cd_icmp_ge (tgt := 56) d_Desk_areNamesOf_23 (by decide) (fun t9 => ?_) (fun t9 => ?_)
  · replace H := H.1 t9
    refine cd_iconst (v := 1) d_Desk_areNamesOf_56 (by decide) ?_
    exact cd_iret d_Desk_areNamesOf_57 rfl rfl H
  · replace H := H.2 t9
    refine cd_aload_n (i := 0) (v := .ref 64) d_Desk_areNamesOf_26 rfl rfl (cd_isr_ref _) ?_
    refine cd_aload_n (i := 1) (v := .ref v1) d_Desk_areNamesOf_27 rfl rfl (cd_isr_ref _) ?_
    obtain ⟨c10, H⟩ := H
    refine cd_get (v := va_rf (cd_r h6 v1 2)) d_Desk_areNamesOf_28 fl_Desk_198 c10 rfl ?_
    refine cd_iload_n (i := 3) d_Desk_areNamesOf_31 rfl rfl ?_
    obtain ⟨b11, e12, H⟩ := H
    rw [cd_rfs e12]
    obtain ⟨c13, H⟩ := H
    refine cd_callV (kc := kc) (ks := ks) (kc' := 0) (ks' := 0) (As := [.int v3]) (S := [.ref 64]) d_Desk_areNamesOf_32 ca_Desk_areNamesOf_138 c13 rfl (Nat.le_of_ble_eq_true rfl) (Nat.le_of_ble_eq_true rfl) ?_
    refine cd_W.mono (fun r14 h15 H => ?_) H
    obtain ⟨o16, rfl, H⟩ := H
    obtain ⟨F17, H⟩ := H
    show cd_W X m_Desk_areNamesOf kc ks 35 [some (.ref 64), some (.ref v1), some (.int v2), some (.int v3)] [va_rf o16, .ref 64] h15 Q
    obtain ⟨b18, e19, H⟩ := H
    rw [cd_rfs e19]
    obtain ⟨c20, H⟩ := H
    refine cd_cast d_Desk_areNamesOf_35 rfl ⟨kw_2_151, kw_3_208⟩ c20 ?_
    refine cd_get (v := va_rf (cd_r h15 b18 2)) d_Desk_areNamesOf_38 fl_Desk_363 c20 rfl ?_
    refine cd_iload_n (i := 2) d_Desk_areNamesOf_41 rfl rfl ?_
    obtain ⟨b21, e22, H⟩ := H
    rw [cd_rfs e22]
    refine cd_callV (kc := kc) (ks := ks) (kc' := 0) (ks' := 0) (As := [.ref b21, .int v2]) (S := []) d_Desk_areNamesOf_42 ca_Desk_areNamesOf_407 (cc_k64 F17) rfl (Nat.le_of_ble_eq_true rfl) (Nat.le_of_ble_eq_true rfl) ?_
    refine cd_W.mono (fun r23 h24 H => ?_) H
    obtain ⟨x25, rfl, H⟩ := H
    obtain ⟨F26, H⟩ := H
    show cd_W X m_Desk_areNamesOf kc ks 45 [some (.ref 64), some (.ref v1), some (.int v2), some (.int v3)] [.int x25] h24 Q
    refine cd_if_ne (tgt := 50) d_Desk_areNamesOf_45 (by decide) (fun t27 => ?_) (fun t27 => ?_)
    · replace H := H.1 t27
      refine cd_iinc (i := 3) (v := (v3 + 1)) d_Desk_areNamesOf_50 rfl (cd_inc1 _) (by decide) ?_
      show cd_W X m_Desk_areNamesOf kc ks 53 [some (.ref 64), some (.ref v1), some (.int v2), some (.int (v3 + 1))] [] h24 Q
      refine cd_goto (tgt := 15) d_Desk_areNamesOf_53 (by decide) ?_
      exact H
    · replace H := H.2 t27
      refine cd_iconst (v := 0) d_Desk_areNamesOf_48 (by decide) ?_
      exact cd_iret d_Desk_areNamesOf_49 rfl rfl H

abbrev m_Desk_openAccount : cd_M := (⟨"CertificateDesk", "openAccount", "(LCertificateDesk$Key;LCertificateDesk$Account;)I"⟩, prog_1_method_36_code, 5, some .int, 19, 421)
theorem d_Desk_openAccount_0 : decode prog_1_method_36_code 0 = .ok (.aload_n 2, 1) := by decide +kernel
theorem d_Desk_openAccount_1 : decode prog_1_method_36_code 1 = .ok (.ifnull 6, 3) := by decide +kernel
theorem d_Desk_openAccount_7 : decode prog_1_method_36_code 7 = .ok (.iconst 0, 1) := by decide +kernel
theorem d_Desk_openAccount_8 : decode prog_1_method_36_code 8 = .ok (.istore_n 3, 1) := by decide +kernel
theorem d_Desk_openAccount_4 : decode prog_1_method_36_code 4 = .ok (.bipush (-4), 2) := by decide +kernel
theorem d_Desk_openAccount_6 : decode prog_1_method_36_code 6 = .ok (.ireturn, 1) := by decide +kernel
theorem g_Desk_openAccount {X : cd_E} {kc ks : Nat} {h : cd_H} {Q : Option Value → cd_H → Prop} {p1 : Nat} {p2 : Option Nat} (F : cc_ok h) (H : (((p2 = none) → (cd_W X m_Desk_openAccount kc ks 9 [some (.ref 64), some (.ref p1), none, some (.int 0), none] [] h Q)) ∧ (∀ b2 : Nat, p2 = some b2 → (Q (some (.int (-4))) h)))) : cd_W X m_Desk_openAccount kc ks 0 [some (.ref 64), some (.ref p1), some (va_rf p2), none, none] [] h Q := by
  refine cd_aload_n (i := 2) (v := va_rf p2) d_Desk_openAccount_0 rfl rfl (cd_isr_rf _) ?_
  refine cd_ifnull (r := p2) (tgt := 7) d_Desk_openAccount_1 (by decide) (fun t1 => ?_) (fun b2 t1 => ?_)
  · replace H := H.1 t1
    rw [cd_rfn t1]
    refine cd_iconst (v := 0) d_Desk_openAccount_7 (by decide) ?_
    refine cd_istore_n (i := 3) d_Desk_openAccount_8 rfl (by decide) ?_
    show cd_W X m_Desk_openAccount kc ks 9 [some (.ref 64), some (.ref p1), some (.null), some (.int 0), none] [] h Q
    refine cd_W.drop (i := 2) ?_
    exact H
  · replace H := H.2 b2 t1
    rw [cd_rfs t1]
    refine cd_bipush (v := (-4)) d_Desk_openAccount_4 (by decide) ?_
    exact cd_iret d_Desk_openAccount_6 rfl rfl H

theorem d_Desk_openAccount_9 : decode prog_1_method_36_code 9 = .ok (.iload_n 3, 1) := by decide +kernel
theorem d_Desk_openAccount_10 : decode prog_1_method_36_code 10 = .ok (.aload_n 0, 1) := by decide +kernel
theorem d_Desk_openAccount_11 : decode prog_1_method_36_code 11 = .ok (.getfield 71, 3) := by decide +kernel
theorem d_Desk_openAccount_14 : decode prog_1_method_36_code 14 = .ok (.invokevirtual 135, 3) := by decide +kernel
theorem ca_Desk_openAccount_135 {X : cd_E} : cd_CV X m_Desk_openAccount m_AL_size 135 0 12 := ⟨⟨by decide, kw_2_11, kw_1_9, ⟨by decide, by decide, by decide +kernel⟩, by decide, by decide⟩, ⟨_, rfl, rfl⟩, kw_2_9, kw_2_10, (Or.inl kw_2_8)⟩
theorem d_Desk_openAccount_17 : decode prog_1_method_36_code 17 = .ok (.if_icmp .ge 52, 3) := by decide +kernel
theorem d_Desk_openAccount_69 : decode prog_1_method_36_code 69 = .ok (.aload_n 0, 1) := by decide +kernel
theorem d_Desk_openAccount_70 : decode prog_1_method_36_code 70 = .ok (.getfield 71, 3) := by decide +kernel
theorem d_Desk_openAccount_73 : decode prog_1_method_36_code 73 = .ok (.invokevirtual 135, 3) := by decide +kernel
theorem d_Desk_openAccount_76 : decode prog_1_method_36_code 76 = .ok (.istore_n 3, 1) := by decide +kernel
theorem d_Desk_openAccount_77 : decode prog_1_method_36_code 77 = .ok (.aload_n 0, 1) := by decide +kernel
theorem d_Desk_openAccount_78 : decode prog_1_method_36_code 78 = .ok (.iconst 3, 1) := by decide +kernel
theorem d_Desk_openAccount_79 : decode prog_1_method_36_code 79 = .ok (.invokevirtual 150, 3) := by decide +kernel
theorem kw_2_127 : (Jvm.Cond.methodLink "CertificateDesk" (150 : Nat) ({ cls := "CertificateDesk", name := "keep", desc := "(I)LCertificateDesk$Fate;" } : Jvm.MethodName)) ∈ cd_tbl := tb_2 (List.mem_of_getElem? (i := 127) (by decide +kernel)) (by decide)
theorem kw_2_130 : (Jvm.Cond.code ({ cls := "CertificateDesk", name := "keep", desc := "(I)LCertificateDesk$Fate;" } : Jvm.MethodName) prog_1_method_31_code (3 : Nat) (Option.some (Jvm.ClassFile.FieldType.object "CertificateDesk$Fate"))) ∈ cd_tbl := tb_2 (List.mem_of_getElem? (i := 130) (by decide +kernel)) (by decide)
theorem kw_2_129 : (Jvm.Cond.instanceMethod ({ cls := "CertificateDesk", name := "keep", desc := "(I)LCertificateDesk$Fate;" } : Jvm.MethodName)) ∈ cd_tbl := tb_2 (List.mem_of_getElem? (i := 129) (by decide +kernel)) (by decide)
theorem kp_13 : Cond.selects "CertificateDesk" ⟨"CertificateDesk", "keep", "(I)LCertificateDesk$Fate;"⟩ ⟨"CertificateDesk", "keep", "(I)LCertificateDesk$Fate;"⟩ ∈ cd_tbl := cd_sel (List.mem_of_getElem? (i := 13) (by decide +kernel)) (by decide)
theorem ca_Desk_openAccount_150 {X : cd_E} : cd_CV X m_Desk_openAccount m_Desk_keep 150 1 0 := ⟨⟨by decide, kw_2_130, kw_1_1, ⟨by decide, by decide, by decide +kernel⟩, by decide, by decide⟩, ⟨_, rfl, rfl⟩, kw_2_129, kp_13, (Or.inl kw_2_127)⟩
theorem d_Desk_openAccount_82 : decode prog_1_method_36_code 82 = .ok (.astore 4, 2) := by decide +kernel
theorem d_Desk_openAccount_84 : decode prog_1_method_36_code 84 = .ok (.aload 4, 2) := by decide +kernel
theorem d_Desk_openAccount_86 : decode prog_1_method_36_code 86 = .ok (.getfield 157, 3) := by decide +kernel
theorem kw_6_208 : (Jvm.Cond.fieldLink "CertificateDesk" (157 : Nat) "CertificateDesk$Fate" "change" "Z") ∈ cd_tbl := tb_6 (List.mem_of_getElem? (i := 208) (by decide +kernel)) (by decide)
theorem fl_Desk_157 {X : cd_E} : cd_FL X "CertificateDesk" 157 10 0 .boolean := cd_FL.of rfl rfl (by decide) kw_6_208 (Or.inl rfl)
theorem d_Desk_openAccount_89 : decode prog_1_method_36_code 89 = .ok (.ifCond .eq 19, 3) := by decide +kernel
theorem d_Desk_openAccount_108 : decode prog_1_method_36_code 108 = .ok (.aload 4, 2) := by decide +kernel
theorem d_Desk_openAccount_110 : decode prog_1_method_36_code 110 = .ok (.iload_n 3, 1) := by decide +kernel
theorem d_Desk_openAccount_111 : decode prog_1_method_36_code 111 = .ok (.invokevirtual 334, 3) := by decide +kernel
theorem kw_2_229 : (Jvm.Cond.methodLink "CertificateDesk" (334 : Nat) ({ cls := "CertificateDesk$Fate", name := "answer", desc := "(I)I" } : Jvm.MethodName)) ∈ cd_tbl := tb_2 (List.mem_of_getElem? (i := 229) (by decide +kernel)) (by decide)
theorem kw_2_232 : (Jvm.Cond.code ({ cls := "CertificateDesk$Fate", name := "answer", desc := "(I)I" } : Jvm.MethodName) prog_6_method_4_code (2 : Nat) (Option.some Jvm.ClassFile.FieldType.int)) ∈ cd_tbl := tb_2 (List.mem_of_getElem? (i := 232) (by decide +kernel)) (by decide)
theorem kw_1_18 : (Jvm.Cond.initialized "CertificateDesk$Fate") ∈ cd_tbl := tb_1 (List.mem_of_getElem? (i := 18) (by decide +kernel)) (by decide)
theorem kw_2_230 : (Jvm.Cond.instanceMethod ({ cls := "CertificateDesk$Fate", name := "answer", desc := "(I)I" } : Jvm.MethodName)) ∈ cd_tbl := tb_2 (List.mem_of_getElem? (i := 230) (by decide +kernel)) (by decide)
theorem kw_2_231 : (Jvm.Cond.selects "CertificateDesk$Fate" ({ cls := "CertificateDesk$Fate", name := "answer", desc := "(I)I" } : Jvm.MethodName) ({ cls := "CertificateDesk$Fate", name := "answer", desc := "(I)I" } : Jvm.MethodName)) ∈ cd_tbl := tb_2 (List.mem_of_getElem? (i := 231) (by decide +kernel)) (by decide)
theorem ca_Desk_openAccount_334 {X : cd_E} : cd_CV X m_Desk_openAccount m_Fat_answer 334 1 10 := ⟨⟨by decide, kw_2_232, kw_1_18, ⟨by decide, by decide, by decide +kernel⟩, by decide, by decide⟩, ⟨_, rfl, rfl⟩, kw_2_230, kw_2_231, (Or.inl kw_2_229)⟩
theorem d_Desk_openAccount_114 : decode prog_1_method_36_code 114 = .ok (.ireturn, 1) := by decide +kernel
theorem d_Desk_openAccount_92 : decode prog_1_method_36_code 92 = .ok (.aload_n 0, 1) := by decide +kernel
theorem d_Desk_openAccount_93 : decode prog_1_method_36_code 93 = .ok (.getfield 71, 3) := by decide +kernel
theorem d_Desk_openAccount_96 : decode prog_1_method_36_code 96 = .ok (.new 180, 3) := by decide +kernel
theorem nc_Desk_180 : cd_NC "CertificateDesk" 180 1 2 := cd_NC.of cl_1 rfl kw_2_26
theorem d_Desk_openAccount_99 : decode prog_1_method_36_code 99 = .ok (.dup, 1) := by decide +kernel
theorem d_Desk_openAccount_100 : decode prog_1_method_36_code 100 = .ok (.aload_n 1, 1) := by decide +kernel
theorem d_Desk_openAccount_101 : decode prog_1_method_36_code 101 = .ok (.invokespecial 327, 3) := by decide +kernel
theorem kw_2_153 : (Jvm.Cond.methodLink "CertificateDesk" (327 : Nat) ({ cls := "CertificateDesk$Account", name := "<init>", desc := "(LCertificateDesk$Key;)V" } : Jvm.MethodName)) ∈ cd_tbl := tb_2 (List.mem_of_getElem? (i := 153) (by decide +kernel)) (by decide)
theorem kw_2_155 : (Jvm.Cond.code ({ cls := "CertificateDesk$Account", name := "<init>", desc := "(LCertificateDesk$Key;)V" } : Jvm.MethodName) prog_2_method_1_code (2 : Nat) (Option.none : Option Jvm.ClassFile.FieldType)) ∈ cd_tbl := tb_2 (List.mem_of_getElem? (i := 155) (by decide +kernel)) (by decide)
theorem kw_2_154 : (Jvm.Cond.instanceMethod ({ cls := "CertificateDesk$Account", name := "<init>", desc := "(LCertificateDesk$Key;)V" } : Jvm.MethodName)) ∈ cd_tbl := tb_2 (List.mem_of_getElem? (i := 154) (by decide +kernel)) (by decide)
theorem ca_Desk_openAccount_327 {X : cd_E} : cd_CI X m_Desk_openAccount m_Acc_init 327 1 := ⟨⟨by decide, kw_2_155, kw_1_19, ⟨by decide, by decide, by decide +kernel⟩, by decide, by decide⟩, rfl, rfl, kw_2_154, (Or.inl kw_2_153)⟩
theorem d_Desk_openAccount_104 : decode prog_1_method_36_code 104 = .ok (.invokevirtual 330, 3) := by decide +kernel
theorem ca_Desk_openAccount_330 {X : cd_E} : cd_CV X m_Desk_openAccount m_AL_add_LObjectZ 330 1 12 := ⟨⟨by decide, kw_2_170, kw_1_9, ⟨by decide, by decide, by decide +kernel⟩, by decide, by decide⟩, ⟨_, rfl, rfl⟩, kw_2_168, kw_2_169, (Or.inl kw_2_167)⟩
theorem d_Desk_openAccount_107 : decode prog_1_method_36_code 107 = .ok (.pop, 1) := by decide +kernel
theorem d_Desk_openAccount_20 : decode prog_1_method_36_code 20 = .ok (.aload_n 0, 1) := by decide +kernel
theorem d_Desk_openAccount_21 : decode prog_1_method_36_code 21 = .ok (.getfield 71, 3) := by decide +kernel
theorem d_Desk_openAccount_24 : decode prog_1_method_36_code 24 = .ok (.iload_n 3, 1) := by decide +kernel
theorem d_Desk_openAccount_25 : decode prog_1_method_36_code 25 = .ok (.invokevirtual 138, 3) := by decide +kernel
theorem ca_Desk_openAccount_138 {X : cd_E} : cd_CV X m_Desk_openAccount m_AL_get 138 1 12 := ⟨⟨by decide, kw_2_15, kw_1_9, ⟨by decide, by decide, by decide +kernel⟩, by decide, by decide⟩, ⟨_, rfl, rfl⟩, kw_2_13, kw_2_14, (Or.inl kw_2_12)⟩
theorem d_Desk_openAccount_28 : decode prog_1_method_36_code 28 = .ok (.checkcast 180, 3) := by decide +kernel
theorem d_Desk_openAccount_31 : decode prog_1_method_36_code 31 = .ok (.astore 4, 2) := by decide +kernel
theorem d_Desk_openAccount_33 : decode prog_1_method_36_code 33 = .ok (.aload 4, 2) := by decide +kernel
theorem d_Desk_openAccount_35 : decode prog_1_method_36_code 35 = .ok (.getfield 184, 3) := by decide +kernel
theorem d_Desk_openAccount_38 : decode prog_1_method_36_code 38 = .ok (.getfield 187, 3) := by decide +kernel
theorem kw_1_45 : (Jvm.Cond.fieldLink "CertificateDesk" (187 : Nat) "CertificateDesk$Key" "number" "I") ∈ cd_tbl := tb_1 (List.mem_of_getElem? (i := 45) (by decide +kernel)) (by decide)
theorem fl_Desk_187 {X : cd_E} : cd_FL X "CertificateDesk" 187 4 0 .int := cd_FL.of rfl rfl (by decide) kw_1_45 (Or.inl rfl)
theorem d_Desk_openAccount_41 : decode prog_1_method_36_code 41 = .ok (.aload_n 1, 1) := by decide +kernel
theorem d_Desk_openAccount_42 : decode prog_1_method_36_code 42 = .ok (.getfield 187, 3) := by decide +kernel
theorem d_Desk_openAccount_45 : decode prog_1_method_36_code 45 = .ok (.if_icmp .ne 18, 3) := by decide +kernel
theorem d_Desk_openAccount_63 : decode prog_1_method_36_code 63 = .ok (.iinc 3 1, 3) := by decide +kernel
theorem d_Desk_openAccount_66 : decode prog_1_method_36_code 66 = .ok (.goto (-57), 3) := by decide +kernel
theorem d_Desk_openAccount_48 : decode prog_1_method_36_code 48 = .ok (.aload 4, 2) := by decide +kernel
theorem d_Desk_openAccount_50 : decode prog_1_method_36_code 50 = .ok (.getfield 179, 3) := by decide +kernel
theorem d_Desk_openAccount_53 : decode prog_1_method_36_code 53 = .ok (.ifCond .eq 8, 3) := by decide +kernel
theorem d_Desk_openAccount_61 : decode prog_1_method_36_code 61 = .ok (.iload_n 3, 1) := by decide +kernel
theorem d_Desk_openAccount_62 : decode prog_1_method_36_code 62 = .ok (.ireturn, 1) := by decide +kernel
theorem d_Desk_openAccount_56 : decode prog_1_method_36_code 56 = .ok (.bipush (-4), 2) := by decide +kernel
theorem d_Desk_openAccount_58 : decode prog_1_method_36_code 58 = .ok (.goto 4, 3) := by decide +kernel
theorem g_Desk_openAccount_9 {X : cd_E} {kc ks : Nat} {h : cd_H} {Q : Option Value → cd_H → Prop} {v1 : Nat} {v3 : Int32} (F : cc_ok h) (H : cd_W X m_AL_size 0 0 0 [some (.ref 78)] [] h (fun r1 h2 => ∃ x3 : Int32, r1 = some (.int x3) ∧ ((cc_ok h2) ∧ ((((x3 ≤ v3) → (cd_W X m_AL_size 0 0 0 [some (.ref 78)] [] h2 (fun r6 h7 => ∃ x8 : Int32, r6 = some (.int x8) ∧ ((cc_ok h7) ∧ (cd_W X m_Desk_keep 0 0 0 [some (.ref 64), some (.int 3), none] [] h7 (fun r10 h11 => ∃ b12 : Nat, r10 = some (.ref b12) ∧ ((cc_ok h11) ∧ ((cd_k h11 b12 = some (.inl 10)) ∧ (((((cd_i h11 b12 0) = 0) → (cd_W X m_Fat_answer 0 0 0 [some (.ref b12), some (.int x8)] [] h11 (fun r16 h17 => ∃ x18 : Int32, r16 = some (.int x18) ∧ ((cc_ok h17) ∧ (Q (some (.int x18)) h17))))) ∧ ((¬ (cd_i h11 b12 0) = 0) → (cd_W X m_Acc_init 0 0 0 [some (.ref (cd_n h11)), some (.ref v1)] [] (cd_new h11 (.inl 1)) (fun r20 h21 => (r20 = none) ∧ ((cc_ok h21) ∧ (cd_W X m_AL_add_LObjectZ 1 40 0 [some (.ref 78), some (.ref (cd_n h11))] [] h21 (fun r23 h24 => ∃ x25 : Int32, r23 = some (.int x25) ∧ ((cc_ok h24) ∧ ((cd_k h24 b12 = some (.inl 10)) ∧ (cd_W X m_Fat_answer 0 0 0 [some (.ref b12), some (.int x8)] [] h24 (fun r28 h29 => ∃ x30 : Int32, r28 = some (.int x30) ∧ ((cc_ok h29) ∧ (Q (some (.int x30)) h29)))))))))))))))))))))) ∧ ((¬ x3 ≤ v3) → (cd_W X m_AL_get 0 0 0 [some (.ref 78), some (.int v3)] [] h2 (fun r32 h33 => ∃ o34 : Option Nat, r32 = some (va_rf o34) ∧ ((cc_ok h33) ∧ ((∃ b36 : Nat, o34 = some b36 ∧ ((cd_k h33 b36 = some (.inl 1)) ∧ ((∃ b39 : Nat, (cd_r h33 b36 0) = some b39 ∧ ((cd_k h33 b39 = some (.inl 4)) ∧ ((cd_k h33 v1 = some (.inl 4)) ∧ ((((¬ (cd_i h33 b39 0) = (cd_i h33 v1 0)) → (cd_W X m_Desk_openAccount kc ks 9 [some (.ref 64), some (.ref v1), none, some (.int (v3 + 1)), none] [] h33 Q)) ∧ (((cd_i h33 b39 0) = (cd_i h33 v1 0)) → (((((cd_i h33 b36 1) = 0) → (Q (some (.int v3)) h33)) ∧ ((¬ (cd_i h33 b36 1) = 0) → (Q (some (.int (-4))) h33))))))))))))))))))))))) : cd_W X m_Desk_openAccount (kc + 2) (ks + 42) 9 [some (.ref 64), some (.ref v1), none, some (.int v3), none] [] h Q := by
  refine cd_iload_n (i := 3) d_Desk_openAccount_9 rfl rfl ?_
  refine cd_aload_n (i := 0) (v := .ref 64) d_Desk_openAccount_10 rfl rfl (cd_isr_ref _) ?_
  refine cd_get (v := .ref 78) d_Desk_openAccount_11 fl_Desk_71 (cc_k64 F) (congrArg va_rf (cc_r64_8 F)) ?_
  refine cd_callV (kc := (kc + 2)) (ks := (ks + 42)) (kc' := 0) (ks' := 0) (As := []) (S := [.int v3]) d_Desk_openAccount_14 ca_Desk_openAccount_135 (cc_k78 F) rfl (Nat.le_of_ble_eq_true rfl) (Nat.le_of_ble_eq_true rfl) ?_
  refine cd_W.mono (fun r1 h2 H => ?_) H
  obtain ⟨x3, rfl, H⟩ := H
  obtain ⟨F4, H⟩ := H
  show cd_W X m_Desk_openAccount (kc + 2) (ks + 42) 17 [some (.ref 64), some (.ref v1), none, some (.int v3), none] [.int x3, .int v3] h2 Q
  refine cd_icmp_ge (tgt := 69) d_Desk_openAccount_17 (by decide) (fun t5 => ?_) (fun t5 => ?_)
  · replace H := H.1 t5
    refine cd_aload_n (i := 0) (v := .ref 64) d_Desk_openAccount_69 rfl rfl (cd_isr_ref _) ?_
    refine cd_get (v := .ref 78) d_Desk_openAccount_70 fl_Desk_71 (cc_k64 F4) (congrArg va_rf (cc_r64_8 F4)) ?_
    refine cd_callV (kc := (kc + 2)) (ks := (ks + 42)) (kc' := 0) (ks' := 0) (As := []) (S := []) d_Desk_openAccount_73 ca_Desk_openAccount_135 (cc_k78 F4) rfl (Nat.le_of_ble_eq_true rfl) (Nat.le_of_ble_eq_true rfl) ?_
    refine cd_W.mono (fun r6 h7 H => ?_) H
    obtain ⟨x8, rfl, H⟩ := H
    obtain ⟨F9, H⟩ := H
    show cd_W X m_Desk_openAccount (kc + 2) (ks + 42) 76 [some (.ref 64), some (.ref v1), none, some (.int v3), none] [.int x8] h7 Q
    refine cd_istore_n (i := 3) d_Desk_openAccount_76 rfl (by decide) ?_
    show cd_W X m_Desk_openAccount (kc + 2) (ks + 42) 77 [some (.ref 64), some (.ref v1), none, some (.int x8), none] [] h7 Q
    refine cd_aload_n (i := 0) (v := .ref 64) d_Desk_openAccount_77 rfl rfl (cd_isr_ref _) ?_
    refine cd_iconst (v := 3) d_Desk_openAccount_78 (by decide) ?_
    refine cd_callV (kc := (kc + 2)) (ks := (ks + 42)) (kc' := 0) (ks' := 0) (As := [.int 3]) (S := []) d_Desk_openAccount_79 ca_Desk_openAccount_150 (cc_k64 F9) rfl (Nat.le_of_ble_eq_true rfl) (Nat.le_of_ble_eq_true rfl) ?_
    refine cd_W.mono (fun r10 h11 H => ?_) H
    obtain ⟨b12, rfl, H⟩ := H
    obtain ⟨F13, H⟩ := H
    show cd_W X m_Desk_openAccount (kc + 2) (ks + 42) 82 [some (.ref 64), some (.ref v1), none, some (.int x8), none] [.ref b12] h11 Q
    refine cd_astore (i := 4) d_Desk_openAccount_82 (by decide) (cd_isr_ref _) ?_
    show cd_W X m_Desk_openAccount (kc + 2) (ks + 42) 84 [some (.ref 64), some (.ref v1), none, some (.int x8), some (.ref b12)] [] h11 Q
    refine cd_aload (i := 4) (v := .ref b12) d_Desk_openAccount_84 rfl (cd_isr_ref _) ?_
    obtain ⟨c14, H⟩ := H
    refine cd_get (v := .int (cd_i h11 b12 0)) d_Desk_openAccount_86 fl_Desk_157 c14 rfl ?_
    refine cd_if_eq (tgt := 108) d_Desk_openAccount_89 (by decide) (fun t15 => ?_) (fun t15 => ?_)
    · replace H := H.1 t15
      refine cd_aload (i := 4) (v := .ref b12) d_Desk_openAccount_108 rfl (cd_isr_ref _) ?_
      refine cd_iload_n (i := 3) d_Desk_openAccount_110 rfl rfl ?_
      refine cd_callV (kc := (kc + 2)) (ks := (ks + 42)) (kc' := 0) (ks' := 0) (As := [.int x8]) (S := []) d_Desk_openAccount_111 ca_Desk_openAccount_334 c14 rfl (Nat.le_of_ble_eq_true rfl) (Nat.le_of_ble_eq_true rfl) ?_
      refine cd_W.mono (fun r16 h17 H => ?_) H
      obtain ⟨x18, rfl, H⟩ := H
      obtain ⟨F19, H⟩ := H
      show cd_W X m_Desk_openAccount (kc + 2) (ks + 42) 114 [some (.ref 64), some (.ref v1), none, some (.int x8), some (.ref b12)] [.int x18] h17 Q
      exact cd_iret d_Desk_openAccount_114 rfl rfl H
    · replace H := H.2 t15
      refine cd_aload_n (i := 0) (v := .ref 64) d_Desk_openAccount_92 rfl rfl (cd_isr_ref _) ?_
      refine cd_get (v := .ref 78) d_Desk_openAccount_93 fl_Desk_71 (cc_k64 F13) (congrArg va_rf (cc_r64_8 F13)) ?_
      refine cd_newo (kc := (kc + 1)) (ks := (ks + 40)) d_Desk_openAccount_96 nc_Desk_180 ?_
      refine cd_dup d_Desk_openAccount_99 rfl ?_
      refine cd_aload_n (i := 1) (v := .ref v1) d_Desk_openAccount_100 rfl rfl (cd_isr_ref _) ?_
      refine cd_callI (kc := (kc + 1)) (ks := (ks + 40)) (kc' := 0) (ks' := 0) (As := [.ref v1]) (S := [.ref (cd_n h11), .ref 78]) d_Desk_openAccount_101 ca_Desk_openAccount_327 rfl (Nat.le_of_ble_eq_true rfl) (Nat.le_of_ble_eq_true rfl) ?_
      refine cd_W.mono (fun r20 h21 H => ?_) H
      obtain ⟨rfl, H⟩ := H
      obtain ⟨F22, H⟩ := H
      show cd_W X m_Desk_openAccount (kc + 1) (ks + 40) 104 [some (.ref 64), some (.ref v1), none, some (.int x8), some (.ref b12)] [.ref (cd_n h11), .ref 78] h21 Q
      refine cd_callV (kc := (kc + 0)) (ks := (ks + 0)) (kc' := 1) (ks' := 40) (As := [.ref (cd_n h11)]) (S := []) d_Desk_openAccount_104 ca_Desk_openAccount_330 (cc_k78 F22) rfl (Nat.le_of_ble_eq_true rfl) (Nat.le_of_ble_eq_true rfl) ?_
      refine cd_W.mono (fun r23 h24 H => ?_) H
      obtain ⟨x25, rfl, H⟩ := H
      obtain ⟨F26, H⟩ := H
      show cd_W X m_Desk_openAccount (kc + 0) (ks + 0) 107 [some (.ref 64), some (.ref v1), none, some (.int x8), some (.ref b12)] [.int x25] h24 Q
      refine cd_pop d_Desk_openAccount_107 rfl ?_
      refine cd_aload (i := 4) (v := .ref b12) d_Desk_openAccount_108 rfl (cd_isr_ref _) ?_
      refine cd_iload_n (i := 3) d_Desk_openAccount_110 rfl rfl ?_
      obtain ⟨c27, H⟩ := H
      refine cd_callV (kc := (kc + 0)) (ks := (ks + 0)) (kc' := 0) (ks' := 0) (As := [.int x8]) (S := []) d_Desk_openAccount_111 ca_Desk_openAccount_334 c27 rfl (Nat.le_of_ble_eq_true rfl) (Nat.le_of_ble_eq_true rfl) ?_
      refine cd_W.mono (fun r28 h29 H => ?_) H
      obtain ⟨x30, rfl, H⟩ := H
      obtain ⟨F31, H⟩ := H
      show cd_W X m_Desk_openAccount (kc + 0) (ks + 0) 114 [some (.ref 64), some (.ref v1), none, some (.int x8), some (.ref b12)] [.int x30] h29 Q
      exact cd_iret d_Desk_openAccount_114 rfl rfl H
  · replace H := H.2 t5
    refine cd_aload_n (i := 0) (v := .ref 64) d_Desk_openAccount_20 rfl rfl (cd_isr_ref _) ?_
    refine cd_get (v := .ref 78) d_Desk_openAccount_21 fl_Desk_71 (cc_k64 F4) (congrArg va_rf (cc_r64_8 F4)) ?_
    refine cd_iload_n (i := 3) d_Desk_openAccount_24 rfl rfl ?_
    refine cd_callV (kc := (kc + 2)) (ks := (ks + 42)) (kc' := 0) (ks' := 0) (As := [.int v3]) (S := []) d_Desk_openAccount_25 ca_Desk_openAccount_138 (cc_k78 F4) rfl (Nat.le_of_ble_eq_true rfl) (Nat.le_of_ble_eq_true rfl) ?_
    refine cd_W.mono (fun r32 h33 H => ?_) H
    obtain ⟨o34, rfl, H⟩ := H
    obtain ⟨F35, H⟩ := H
    show cd_W X m_Desk_openAccount (kc + 2) (ks + 42) 28 [some (.ref 64), some (.ref v1), none, some (.int v3), none] [va_rf o34] h33 Q
    obtain ⟨b36, e37, H⟩ := H
    rw [cd_rfs e37]
    obtain ⟨c38, H⟩ := H
    refine cd_cast d_Desk_openAccount_28 rfl ⟨kw_2_26, kw_2_152⟩ c38 ?_
    refine cd_astore (i := 4) d_Desk_openAccount_31 (by decide) (cd_isr_ref _) ?_
    show cd_W X m_Desk_openAccount (kc + 2) (ks + 42) 33 [some (.ref 64), some (.ref v1), none, some (.int v3), some (.ref b36)] [] h33 Q
    refine cd_aload (i := 4) (v := .ref b36) d_Desk_openAccount_33 rfl (cd_isr_ref _) ?_
    refine cd_get (v := va_rf (cd_r h33 b36 0)) d_Desk_openAccount_35 fl_Desk_184 c38 rfl ?_
    obtain ⟨b39, e40, H⟩ := H
    rw [cd_rfs e40]
    obtain ⟨c41, H⟩ := H
    refine cd_get (v := .int (cd_i h33 b39 0)) d_Desk_openAccount_38 fl_Desk_187 c41 rfl ?_
    refine cd_aload_n (i := 1) (v := .ref v1) d_Desk_openAccount_41 rfl rfl (cd_isr_ref _) ?_
    obtain ⟨c42, H⟩ := H
    refine cd_get (v := .int (cd_i h33 v1 0)) d_Desk_openAccount_42 fl_Desk_187 c42 rfl ?_
    refine cd_icmp_ne (tgt := 63) d_Desk_openAccount_45 (by decide) (fun t43 => ?_) (fun t43 => ?_)
    · replace H := H.1 t43
      refine cd_iinc (i := 3) (v := (v3 + 1)) d_Desk_openAccount_63 rfl (cd_inc1 _) (by decide) ?_
      show cd_W X m_Desk_openAccount (kc + 2) (ks + 42) 66 [some (.ref 64), some (.ref v1), none, some (.int (v3 + 1)), some (.ref b36)] [] h33 Q
      refine cd_goto (tgt := 9) d_Desk_openAccount_66 (by decide) ?_
      refine cd_W.drop (i := 4) ?_
      refine cd_W.budget (kc := kc) (ks := ks) (by omega) (by omega) ?_
      exact H
    · replace H := H.2 t43
      refine cd_aload (i := 4) (v := .ref b36) d_Desk_openAccount_48 rfl (cd_isr_ref _) ?_
      refine cd_get (v := .int (cd_i h33 b36 1)) d_Desk_openAccount_50 fl_Desk_179 c38 rfl ?_
      refine cd_if_eq (tgt := 61) d_Desk_openAccount_53 (by decide) (fun t44 => ?_) (fun t44 => ?_)
      · replace H := H.1 t44
        refine cd_iload_n (i := 3) d_Desk_openAccount_61 rfl rfl ?_
        exact cd_iret d_Desk_openAccount_62 rfl rfl H
      · replace H := H.2 t44
        refine cd_bipush (v := (-4)) d_Desk_openAccount_56 (by decide) ?_
        refine cd_goto (tgt := 62) d_Desk_openAccount_58 (by decide) ?_
        exact cd_iret d_Desk_openAccount_62 rfl rfl H

abbrev m_Desk_placeOrder : cd_M := (⟨"CertificateDesk", "placeOrder", "(LCertificateDesk$Account;)I"⟩, prog_1_method_37_code, 7, some .int, 30, 1548)
theorem d_Desk_placeOrder_0 : decode prog_1_method_37_code 0 = .ok (.aload_n 0, 1) := by decide +kernel
theorem d_Desk_placeOrder_1 : decode prog_1_method_37_code 1 = .ok (.getfield 37, 3) := by decide +kernel
theorem d_Desk_placeOrder_4 : decode prog_1_method_37_code 4 = .ok (.aload_n 0, 1) := by decide +kernel
theorem d_Desk_placeOrder_5 : decode prog_1_method_37_code 5 = .ok (.getfield 37, 3) := by decide +kernel
theorem d_Desk_placeOrder_8 : decode prog_1_method_37_code 8 = .ok (.iconst 0, 1) := by decide +kernel
theorem d_Desk_placeOrder_9 : decode prog_1_method_37_code 9 = .ok (.ldc_w 337, 3) := by decide +kernel
theorem d_Desk_placeOrder_12 : decode prog_1_method_37_code 12 = .ok (.invokevirtual 288, 3) := by decide +kernel
theorem kw_2_67 : (Jvm.Cond.methodLink "CertificateDesk" (288 : Nat) ({ cls := "CertificateDesk$Notation", name := "field", desc := "(ILjava/lang/String;)I" } : Jvm.MethodName)) ∈ cd_tbl := tb_2 (List.mem_of_getElem? (i := 67) (by decide +kernel)) (by decide)
theorem kw_2_70 : (Jvm.Cond.code ({ cls := "CertificateDesk$Notation", name := "field", desc := "(ILjava/lang/String;)I" } : Jvm.MethodName) prog_9_method_6_code (7 : Nat) (Option.some Jvm.ClassFile.FieldType.int)) ∈ cd_tbl := tb_2 (List.mem_of_getElem? (i := 70) (by decide +kernel)) (by decide)
theorem kw_2_68 : (Jvm.Cond.instanceMethod ({ cls := "CertificateDesk$Notation", name := "field", desc := "(ILjava/lang/String;)I" } : Jvm.MethodName)) ∈ cd_tbl := tb_2 (List.mem_of_getElem? (i := 68) (by decide +kernel)) (by decide)
theorem kw_2_69 : (Jvm.Cond.selects "CertificateDesk$Notation" ({ cls := "CertificateDesk$Notation", name := "field", desc := "(ILjava/lang/String;)I" } : Jvm.MethodName) ({ cls := "CertificateDesk$Notation", name := "field", desc := "(ILjava/lang/String;)I" } : Jvm.MethodName)) ∈ cd_tbl := tb_2 (List.mem_of_getElem? (i := 69) (by decide +kernel)) (by decide)
theorem ca_Desk_placeOrder_288 {X : cd_E} : cd_CV X m_Desk_placeOrder m_Not_field 288 2 6 := ⟨⟨by decide, kw_2_70, kw_1_3, ⟨by decide, by decide, by decide +kernel⟩, by decide, by decide⟩, ⟨_, rfl, rfl⟩, kw_2_68, kw_2_69, (Or.inl kw_2_67)⟩
theorem d_Desk_placeOrder_15 : decode prog_1_method_37_code 15 = .ok (.aload_n 0, 1) := by decide +kernel
theorem d_Desk_placeOrder_16 : decode prog_1_method_37_code 16 = .ok (.getfield 41, 3) := by decide +kernel
theorem d_Desk_placeOrder_19 : decode prog_1_method_37_code 19 = .ok (.invokevirtual 339, 3) := by decide +kernel
theorem kw_2_239 : (Jvm.Cond.methodLink "CertificateDesk" (339 : Nat) ({ cls := "CertificateDesk$Notation", name := "strings", desc := "(I[I)I" } : Jvm.MethodName)) ∈ cd_tbl := tb_2 (List.mem_of_getElem? (i := 239) (by decide +kernel)) (by decide)
theorem kw_3_2 : (Jvm.Cond.code ({ cls := "CertificateDesk$Notation", name := "strings", desc := "(I[I)I" } : Jvm.MethodName) prog_9_method_7_code (6 : Nat) (Option.some Jvm.ClassFile.FieldType.int)) ∈ cd_tbl := tb_3 (List.mem_of_getElem? (i := 2) (by decide +kernel)) (by decide)
theorem kw_3_0 : (Jvm.Cond.instanceMethod ({ cls := "CertificateDesk$Notation", name := "strings", desc := "(I[I)I" } : Jvm.MethodName)) ∈ cd_tbl := tb_3 (List.mem_of_getElem? (i := 0) (by decide +kernel)) (by decide)
theorem kw_3_1 : (Jvm.Cond.selects "CertificateDesk$Notation" ({ cls := "CertificateDesk$Notation", name := "strings", desc := "(I[I)I" } : Jvm.MethodName) ({ cls := "CertificateDesk$Notation", name := "strings", desc := "(I[I)I" } : Jvm.MethodName)) ∈ cd_tbl := tb_3 (List.mem_of_getElem? (i := 1) (by decide +kernel)) (by decide)
theorem ca_Desk_placeOrder_339 {X : cd_E} : cd_CV X m_Desk_placeOrder m_Not_strings 339 2 6 := ⟨⟨by decide, kw_3_2, kw_1_3, ⟨by decide, by decide, by decide +kernel⟩, by decide, by decide⟩, ⟨_, rfl, rfl⟩, kw_3_0, kw_3_1, (Or.inl kw_2_239)⟩
theorem d_Desk_placeOrder_22 : decode prog_1_method_37_code 22 = .ok (.istore_n 2, 1) := by decide +kernel
theorem d_Desk_placeOrder_23 : decode prog_1_method_37_code 23 = .ok (.aload_n 0, 1) := by decide +kernel
theorem d_Desk_placeOrder_24 : decode prog_1_method_37_code 24 = .ok (.iload_n 2, 1) := by decide +kernel
theorem d_Desk_placeOrder_25 : decode prog_1_method_37_code 25 = .ok (.invokevirtual 343, 3) := by decide +kernel
theorem kw_3_3 : (Jvm.Cond.methodLink "CertificateDesk" (343 : Nat) ({ cls := "CertificateDesk", name := "areNames", desc := "(I)Z" } : Jvm.MethodName)) ∈ cd_tbl := tb_3 (List.mem_of_getElem? (i := 3) (by decide +kernel)) (by decide)
theorem kw_3_6 : (Jvm.Cond.code ({ cls := "CertificateDesk", name := "areNames", desc := "(I)Z" } : Jvm.MethodName) prog_1_method_38_code (4 : Nat) (Option.some Jvm.ClassFile.FieldType.boolean)) ∈ cd_tbl := tb_3 (List.mem_of_getElem? (i := 6) (by decide +kernel)) (by decide)
theorem kw_3_5 : (Jvm.Cond.instanceMethod ({ cls := "CertificateDesk", name := "areNames", desc := "(I)Z" } : Jvm.MethodName)) ∈ cd_tbl := tb_3 (List.mem_of_getElem? (i := 5) (by decide +kernel)) (by decide)
theorem kp_18 : Cond.selects "CertificateDesk" ⟨"CertificateDesk", "areNames", "(I)Z"⟩ ⟨"CertificateDesk", "areNames", "(I)Z"⟩ ∈ cd_tbl := cd_sel (List.mem_of_getElem? (i := 18) (by decide +kernel)) (by decide)
theorem ca_Desk_placeOrder_343 {X : cd_E} : cd_CV X m_Desk_placeOrder m_Desk_areNames 343 1 0 := ⟨⟨by decide, kw_3_6, kw_1_1, ⟨by decide, by decide, by decide +kernel⟩, by decide, by decide⟩, ⟨_, rfl, rfl⟩, kw_3_5, kp_18, (Or.inl kw_3_3)⟩
theorem d_Desk_placeOrder_28 : decode prog_1_method_37_code 28 = .ok (.ifCond .ne 5, 3) := by decide +kernel
theorem d_Desk_placeOrder_33 : decode prog_1_method_37_code 33 = .ok (.aload_n 1, 1) := by decide +kernel
theorem d_Desk_placeOrder_34 : decode prog_1_method_37_code 34 = .ok (.ifnonnull 6, 3) := by decide +kernel
theorem d_Desk_placeOrder_40 : decode prog_1_method_37_code 40 = .ok (.iconst 5, 1) := by decide +kernel
theorem d_Desk_placeOrder_41 : decode prog_1_method_37_code 41 = .ok (.istore_n 3, 1) := by decide +kernel
theorem d_Desk_placeOrder_42 : decode prog_1_method_37_code 42 = .ok (.iconst 0, 1) := by decide +kernel
theorem d_Desk_placeOrder_43 : decode prog_1_method_37_code 43 = .ok (.istore 4, 2) := by decide +kernel
theorem d_Desk_placeOrder_45 : decode prog_1_method_37_code 45 = .ok (.iconst 0, 1) := by decide +kernel
theorem d_Desk_placeOrder_46 : decode prog_1_method_37_code 46 = .ok (.istore 5, 2) := by decide +kernel
theorem d_Desk_placeOrder_37 : decode prog_1_method_37_code 37 = .ok (.bipush (-4), 2) := by decide +kernel
theorem d_Desk_placeOrder_39 : decode prog_1_method_37_code 39 = .ok (.ireturn, 1) := by decide +kernel
theorem d_Desk_placeOrder_31 : decode prog_1_method_37_code 31 = .ok (.iconst (-1), 1) := by decide +kernel
theorem d_Desk_placeOrder_32 : decode prog_1_method_37_code 32 = .ok (.ireturn, 1) := by decide +kernel
theorem g_Desk_placeOrder {X : cd_E} {kc ks : Nat} {h : cd_H} {Q : Option Value → cd_H → Prop} {p1 : Option Nat} (F : cc_ok h) (H : cd_W X m_Not_field 0 0 0 [some (.ref 71), some (.int 0), some (.ref 8), none, none, none, none] [] h (fun r1 h2 => ∃ x3 : Int32, r1 = some (.int x3) ∧ ((cc_ok h2) ∧ (cd_W X m_Not_strings 0 0 0 [some (.ref 71), some (.int x3), some (.ref 73), none, none, none] [] h2 (fun r5 h6 => ∃ x7 : Int32, r5 = some (.int x7) ∧ ((cc_ok h6) ∧ (cd_W X m_Desk_areNames 0 0 0 [some (.ref 64), some (.int x7), none, none] [] h6 (fun r9 h10 => ∃ x11 : Int32, r9 = some (.int x11) ∧ ((cc_ok h10) ∧ ((((¬ x11 = 0) → ((((p1 = none) → (Q (some (.int (-4))) h10)) ∧ (∀ b15 : Nat, p1 = some b15 → (cd_W X m_Desk_placeOrder kc ks 48 [some (.ref 64), some (.ref b15), some (.int x7), some (.int 5), some (.int 0), some (.int 0), none] [] h10 Q))))) ∧ ((x11 = 0) → (Q (some (.int (-1))) h10))))))))))))) : cd_W X m_Desk_placeOrder kc ks 0 [some (.ref 64), some (va_rf p1), none, none, none, none, none] [] h Q := by
  refine cd_aload_n (i := 0) (v := .ref 64) d_Desk_placeOrder_0 rfl rfl (cd_isr_ref _) ?_
  refine cd_get (v := .ref 71) d_Desk_placeOrder_1 fl_Desk_37 (cc_k64 F) (congrArg va_rf (cc_r64_3 F)) ?_
  refine cd_aload_n (i := 0) (v := .ref 64) d_Desk_placeOrder_4 rfl rfl (cd_isr_ref _) ?_
  refine cd_get (v := .ref 71) d_Desk_placeOrder_5 fl_Desk_37 (cc_k64 F) (congrArg va_rf (cc_r64_3 F)) ?_
  refine cd_iconst (v := 0) d_Desk_placeOrder_8 (by decide) ?_
  refine cd_ldcS d_Desk_placeOrder_9 (tx := "names") (i := 8) (List.mem_of_getElem? (i := 3) rfl) ?_
  refine cd_callV (kc := kc) (ks := ks) (kc' := 0) (ks' := 0) (As := [.int 0, .ref 8]) (S := [.ref 71]) d_Desk_placeOrder_12 ca_Desk_placeOrder_288 (cc_k71 F) rfl (Nat.le_of_ble_eq_true rfl) (Nat.le_of_ble_eq_true rfl) ?_
  refine cd_W.mono (fun r1 h2 H => ?_) H
  obtain ⟨x3, rfl, H⟩ := H
  obtain ⟨F4, H⟩ := H
  show cd_W X m_Desk_placeOrder kc ks 15 [some (.ref 64), some (va_rf p1), none, none, none, none, none] [.int x3, .ref 71] h2 Q
  refine cd_aload_n (i := 0) (v := .ref 64) d_Desk_placeOrder_15 rfl rfl (cd_isr_ref _) ?_
  refine cd_get (v := .ref 73) d_Desk_placeOrder_16 fl_Desk_41 (cc_k64 F4) (congrArg va_rf (cc_r64_4 F4)) ?_
  refine cd_callV (kc := kc) (ks := ks) (kc' := 0) (ks' := 0) (As := [.int x3, .ref 73]) (S := []) d_Desk_placeOrder_19 ca_Desk_placeOrder_339 (cc_k71 F4) rfl (Nat.le_of_ble_eq_true rfl) (Nat.le_of_ble_eq_true rfl) ?_
  refine cd_W.mono (fun r5 h6 H => ?_) H
  obtain ⟨x7, rfl, H⟩ := H
  obtain ⟨F8, H⟩ := H
  show cd_W X m_Desk_placeOrder kc ks 22 [some (.ref 64), some (va_rf p1), none, none, none, none, none] [.int x7] h6 Q
  refine cd_istore_n (i := 2) d_Desk_placeOrder_22 rfl (by decide) ?_
  show cd_W X m_Desk_placeOrder kc ks 23 [some (.ref 64), cd_kl (some (va_rf p1)), some (.int x7), none, none, none, none] [] h6 Q
  rw [cd_kl_rf]
  refine cd_aload_n (i := 0) (v := .ref 64) d_Desk_placeOrder_23 rfl rfl (cd_isr_ref _) ?_
  refine cd_iload_n (i := 2) d_Desk_placeOrder_24 rfl rfl ?_
  refine cd_callV (kc := kc) (ks := ks) (kc' := 0) (ks' := 0) (As := [.int x7]) (S := []) d_Desk_placeOrder_25 ca_Desk_placeOrder_343 (cc_k64 F8) rfl (Nat.le_of_ble_eq_true rfl) (Nat.le_of_ble_eq_true rfl) ?_
  refine cd_W.mono (fun r9 h10 H => ?_) H
  obtain ⟨x11, rfl, H⟩ := H
  obtain ⟨F12, H⟩ := H
  show cd_W X m_Desk_placeOrder kc ks 28 [some (.ref 64), some (va_rf p1), some (.int x7), none, none, none, none] [.int x11] h10 Q
  refine cd_if_ne (tgt := 33) d_Desk_placeOrder_28 (by decide) (fun t13 => ?_) (fun t13 => ?_)
  · replace H := H.1 t13
    refine cd_aload_n (i := 1) (v := va_rf p1) d_Desk_placeOrder_33 rfl rfl (cd_isr_rf _) ?_
    refine cd_ifnonnull (r := p1) (tgt := 40) d_Desk_placeOrder_34 (by decide) (fun b15 t14 => ?_) (fun t14 => ?_)
    · replace H := H.2 b15 t14
      rw [cd_rfs t14]
      refine cd_iconst (v := 5) d_Desk_placeOrder_40 (by decide) ?_
      refine cd_istore_n (i := 3) d_Desk_placeOrder_41 rfl (by decide) ?_
      show cd_W X m_Desk_placeOrder kc ks 42 [some (.ref 64), some (.ref b15), some (.int x7), some (.int 5), none, none, none] [] h10 Q
      refine cd_iconst (v := 0) d_Desk_placeOrder_42 (by decide) ?_
      refine cd_istore (i := 4) d_Desk_placeOrder_43 (by decide) ?_
      show cd_W X m_Desk_placeOrder kc ks 45 [some (.ref 64), some (.ref b15), some (.int x7), some (.int 5), some (.int 0), none, none] [] h10 Q
      refine cd_iconst (v := 0) d_Desk_placeOrder_45 (by decide) ?_
      refine cd_istore (i := 5) d_Desk_placeOrder_46 (by decide) ?_
      show cd_W X m_Desk_placeOrder kc ks 48 [some (.ref 64), some (.ref b15), some (.int x7), some (.int 5), some (.int 0), some (.int 0), none] [] h10 Q
      exact H
    · replace H := H.1 t14
      rw [cd_rfn t14]
      refine cd_bipush (v := (-4)) d_Desk_placeOrder_37 (by decide) ?_
      exact cd_iret d_Desk_placeOrder_39 rfl rfl H
  · replace H := H.2 t13
    refine cd_iconst (v := (-1)) d_Desk_placeOrder_31 (by decide) ?_
    exact cd_iret d_Desk_placeOrder_32 rfl rfl H

theorem d_Desk_placeOrder_48 : decode prog_1_method_37_code 48 = .ok (.iload 5, 2) := by decide +kernel
theorem d_Desk_placeOrder_50 : decode prog_1_method_37_code 50 = .ok (.iload_n 2, 1) := by decide +kernel
theorem d_Desk_placeOrder_51 : decode prog_1_method_37_code 51 = .ok (.if_icmp .ge 52, 3) := by decide +kernel
theorem d_Desk_placeOrder_103 : decode prog_1_method_37_code 103 = .ok (.aload_n 0, 1) := by decide +kernel
theorem d_Desk_placeOrder_104 : decode prog_1_method_37_code 104 = .ok (.getfield 75, 3) := by decide +kernel
theorem d_Desk_placeOrder_107 : decode prog_1_method_37_code 107 = .ok (.invokevirtual 135, 3) := by decide +kernel
theorem ca_Desk_placeOrder_135 {X : cd_E} : cd_CV X m_Desk_placeOrder m_AL_size 135 0 12 := ⟨⟨by decide, kw_2_11, kw_1_9, ⟨by decide, by decide, by decide +kernel⟩, by decide, by decide⟩, ⟨_, rfl, rfl⟩, kw_2_9, kw_2_10, (Or.inl kw_2_8)⟩
theorem d_Desk_placeOrder_110 : decode prog_1_method_37_code 110 = .ok (.istore 5, 2) := by decide +kernel
theorem d_Desk_placeOrder_112 : decode prog_1_method_37_code 112 = .ok (.iload 5, 2) := by decide +kernel
theorem d_Desk_placeOrder_114 : decode prog_1_method_37_code 114 = .ok (.bipush 12, 2) := by decide +kernel
theorem d_Desk_placeOrder_116 : decode prog_1_method_37_code 116 = .ok (.if_icmp .ge 18, 3) := by decide +kernel
theorem d_Desk_placeOrder_134 : decode prog_1_method_37_code 134 = .ok (.bipush (-5), 2) := by decide +kernel
theorem d_Desk_placeOrder_136 : decode prog_1_method_37_code 136 = .ok (.ireturn, 1) := by decide +kernel
theorem d_Desk_placeOrder_119 : decode prog_1_method_37_code 119 = .ok (.aload_n 0, 1) := by decide +kernel
theorem d_Desk_placeOrder_120 : decode prog_1_method_37_code 120 = .ok (.getfield 78, 3) := by decide +kernel
theorem d_Desk_placeOrder_123 : decode prog_1_method_37_code 123 = .ok (.invokevirtual 135, 3) := by decide +kernel
theorem d_Desk_placeOrder_126 : decode prog_1_method_37_code 126 = .ok (.iload 4, 2) := by decide +kernel
theorem d_Desk_placeOrder_128 : decode prog_1_method_37_code 128 = .ok (.iadd, 1) := by decide +kernel
theorem d_Desk_placeOrder_129 : decode prog_1_method_37_code 129 = .ok (.bipush 24, 2) := by decide +kernel
theorem d_Desk_placeOrder_131 : decode prog_1_method_37_code 131 = .ok (.if_icmp .le 6, 3) := by decide +kernel
theorem d_Desk_placeOrder_137 : decode prog_1_method_37_code 137 = .ok (.aload_n 0, 1) := by decide +kernel
theorem d_Desk_placeOrder_138 : decode prog_1_method_37_code 138 = .ok (.iload_n 3, 1) := by decide +kernel
theorem d_Desk_placeOrder_139 : decode prog_1_method_37_code 139 = .ok (.invokevirtual 150, 3) := by decide +kernel
theorem ca_Desk_placeOrder_150 {X : cd_E} : cd_CV X m_Desk_placeOrder m_Desk_keep 150 1 0 := ⟨⟨by decide, kw_2_130, kw_1_1, ⟨by decide, by decide, by decide +kernel⟩, by decide, by decide⟩, ⟨_, rfl, rfl⟩, kw_2_129, kp_13, (Or.inl kw_2_127)⟩
theorem d_Desk_placeOrder_142 : decode prog_1_method_37_code 142 = .ok (.astore 6, 2) := by decide +kernel
theorem d_Desk_placeOrder_144 : decode prog_1_method_37_code 144 = .ok (.aload 6, 2) := by decide +kernel
theorem d_Desk_placeOrder_146 : decode prog_1_method_37_code 146 = .ok (.getfield 157, 3) := by decide +kernel
theorem d_Desk_placeOrder_149 : decode prog_1_method_37_code 149 = .ok (.ifCond .eq 17, 3) := by decide +kernel
theorem d_Desk_placeOrder_166 : decode prog_1_method_37_code 166 = .ok (.aload 6, 2) := by decide +kernel
theorem d_Desk_placeOrder_168 : decode prog_1_method_37_code 168 = .ok (.iload 5, 2) := by decide +kernel
theorem d_Desk_placeOrder_170 : decode prog_1_method_37_code 170 = .ok (.invokevirtual 334, 3) := by decide +kernel
theorem ca_Desk_placeOrder_334 {X : cd_E} : cd_CV X m_Desk_placeOrder m_Fat_answer 334 1 10 := ⟨⟨by decide, kw_2_232, kw_1_18, ⟨by decide, by decide, by decide +kernel⟩, by decide, by decide⟩, ⟨_, rfl, rfl⟩, kw_2_230, kw_2_231, (Or.inl kw_2_229)⟩
theorem d_Desk_placeOrder_173 : decode prog_1_method_37_code 173 = .ok (.ireturn, 1) := by decide +kernel
theorem d_Desk_placeOrder_152 : decode prog_1_method_37_code 152 = .ok (.aload_n 0, 1) := by decide +kernel
theorem d_Desk_placeOrder_153 : decode prog_1_method_37_code 153 = .ok (.getfield 75, 3) := by decide +kernel
theorem d_Desk_placeOrder_156 : decode prog_1_method_37_code 156 = .ok (.aload_n 0, 1) := by decide +kernel
theorem d_Desk_placeOrder_157 : decode prog_1_method_37_code 157 = .ok (.aload_n 1, 1) := by decide +kernel
theorem d_Desk_placeOrder_158 : decode prog_1_method_37_code 158 = .ok (.iload_n 2, 1) := by decide +kernel
theorem d_Desk_placeOrder_159 : decode prog_1_method_37_code 159 = .ok (.invokevirtual 353, 3) := by decide +kernel
theorem kw_3_28 : (Jvm.Cond.methodLink "CertificateDesk" (353 : Nat) ({ cls := "CertificateDesk", name := "makeOrder", desc := "(LCertificateDesk$Account;I)LCertificateDesk$Order;" } : Jvm.MethodName)) ∈ cd_tbl := tb_3 (List.mem_of_getElem? (i := 28) (by decide +kernel)) (by decide)
theorem kw_3_31 : (Jvm.Cond.code ({ cls := "CertificateDesk", name := "makeOrder", desc := "(LCertificateDesk$Account;I)LCertificateDesk$Order;" } : Jvm.MethodName) prog_1_method_40_code (7 : Nat) (Option.some (Jvm.ClassFile.FieldType.object "CertificateDesk$Order"))) ∈ cd_tbl := tb_3 (List.mem_of_getElem? (i := 31) (by decide +kernel)) (by decide)
theorem kw_3_30 : (Jvm.Cond.instanceMethod ({ cls := "CertificateDesk", name := "makeOrder", desc := "(LCertificateDesk$Account;I)LCertificateDesk$Order;" } : Jvm.MethodName)) ∈ cd_tbl := tb_3 (List.mem_of_getElem? (i := 30) (by decide +kernel)) (by decide)
theorem kp_21 : Cond.selects "CertificateDesk" ⟨"CertificateDesk", "makeOrder", "(LCertificateDesk$Account;I)LCertificateDesk$Order;"⟩ ⟨"CertificateDesk", "makeOrder", "(LCertificateDesk$Account;I)LCertificateDesk$Order;"⟩ ∈ cd_tbl := cd_sel (List.mem_of_getElem? (i := 21) (by decide +kernel)) (by decide)
theorem ca_Desk_placeOrder_353 {X : cd_E} : cd_CV X m_Desk_placeOrder m_Desk_makeOrder 353 2 0 := ⟨⟨by decide, kw_3_31, kw_1_1, ⟨by decide, by decide, by decide +kernel⟩, by decide, by decide⟩, ⟨_, rfl, rfl⟩, kw_3_30, kp_21, (Or.inl kw_3_28)⟩
theorem d_Desk_placeOrder_162 : decode prog_1_method_37_code 162 = .ok (.invokevirtual 330, 3) := by decide +kernel
theorem ca_Desk_placeOrder_330 {X : cd_E} : cd_CV X m_Desk_placeOrder m_AL_add_LObjectZ 330 1 12 := ⟨⟨by decide, kw_2_170, kw_1_9, ⟨by decide, by decide, by decide +kernel⟩, by decide, by decide⟩, ⟨_, rfl, rfl⟩, kw_2_168, kw_2_169, (Or.inl kw_2_167)⟩
theorem d_Desk_placeOrder_165 : decode prog_1_method_37_code 165 = .ok (.pop, 1) := by decide +kernel
theorem d_Desk_placeOrder_54 : decode prog_1_method_37_code 54 = .ok (.aload_n 0, 1) := by decide +kernel
theorem d_Desk_placeOrder_55 : decode prog_1_method_37_code 55 = .ok (.aload_n 1, 1) := by decide +kernel
theorem d_Desk_placeOrder_56 : decode prog_1_method_37_code 56 = .ok (.aload_n 0, 1) := by decide +kernel
theorem d_Desk_placeOrder_57 : decode prog_1_method_37_code 57 = .ok (.getfield 41, 3) := by decide +kernel
theorem d_Desk_placeOrder_60 : decode prog_1_method_37_code 60 = .ok (.iload 5, 2) := by decide +kernel
theorem d_Desk_placeOrder_62 : decode prog_1_method_37_code 62 = .ok (.iaload, 1) := by decide +kernel
theorem d_Desk_placeOrder_63 : decode prog_1_method_37_code 63 = .ok (.invokevirtual 346, 3) := by decide +kernel
theorem ca_Desk_placeOrder_346 {X : cd_E} : cd_CV X m_Desk_placeOrder m_Desk_provedPart 346 2 0 := ⟨⟨by decide, kw_3_22, kw_1_1, ⟨by decide, by decide, by decide +kernel⟩, by decide, by decide⟩, ⟨_, rfl, rfl⟩, kw_3_21, kp_19, (Or.inl kw_3_19)⟩
theorem d_Desk_placeOrder_66 : decode prog_1_method_37_code 66 = .ok (.ifnonnull 28, 3) := by decide +kernel
theorem d_Desk_placeOrder_94 : decode prog_1_method_37_code 94 = .ok (.iinc 3 1, 3) := by decide +kernel
theorem d_Desk_placeOrder_97 : decode prog_1_method_37_code 97 = .ok (.iinc 5 1, 3) := by decide +kernel
theorem d_Desk_placeOrder_100 : decode prog_1_method_37_code 100 = .ok (.goto (-52), 3) := by decide +kernel
theorem d_Desk_placeOrder_69 : decode prog_1_method_37_code 69 = .ok (.iinc 4 1, 3) := by decide +kernel
theorem d_Desk_placeOrder_72 : decode prog_1_method_37_code 72 = .ok (.iload_n 3, 1) := by decide +kernel
theorem d_Desk_placeOrder_73 : decode prog_1_method_37_code 73 = .ok (.iconst 2, 1) := by decide +kernel
theorem d_Desk_placeOrder_74 : decode prog_1_method_37_code 74 = .ok (.aload_n 0, 1) := by decide +kernel
theorem d_Desk_placeOrder_75 : decode prog_1_method_37_code 75 = .ok (.getfield 37, 3) := by decide +kernel
theorem d_Desk_placeOrder_78 : decode prog_1_method_37_code 78 = .ok (.aload_n 0, 1) := by decide +kernel
theorem d_Desk_placeOrder_79 : decode prog_1_method_37_code 79 = .ok (.getfield 41, 3) := by decide +kernel
theorem d_Desk_placeOrder_82 : decode prog_1_method_37_code 82 = .ok (.iload 5, 2) := by decide +kernel
theorem d_Desk_placeOrder_84 : decode prog_1_method_37_code 84 = .ok (.iaload, 1) := by decide +kernel
theorem d_Desk_placeOrder_85 : decode prog_1_method_37_code 85 = .ok (.invokevirtual 350, 3) := by decide +kernel
theorem kw_3_27 : (Jvm.Cond.methodLink "CertificateDesk" (350 : Nat) ({ cls := "CertificateDesk$Notation", name := "stringLength", desc := "(I)I" } : Jvm.MethodName)) ∈ cd_tbl := tb_3 (List.mem_of_getElem? (i := 27) (by decide +kernel)) (by decide)
theorem ca_Desk_placeOrder_350 {X : cd_E} : cd_CV X m_Desk_placeOrder m_Not_stringLength 350 1 6 := ⟨⟨by decide, kw_3_14, kw_1_3, ⟨by decide, by decide, by decide +kernel⟩, by decide, by decide⟩, ⟨_, rfl, rfl⟩, kw_3_12, kw_3_13, (Or.inl kw_3_27)⟩
theorem d_Desk_placeOrder_88 : decode prog_1_method_37_code 88 = .ok (.iadd, 1) := by decide +kernel
theorem d_Desk_placeOrder_89 : decode prog_1_method_37_code 89 = .ok (.iadd, 1) := by decide +kernel
theorem d_Desk_placeOrder_90 : decode prog_1_method_37_code 90 = .ok (.istore_n 3, 1) := by decide +kernel
theorem d_Desk_placeOrder_91 : decode prog_1_method_37_code 91 = .ok (.goto 6, 3) := by decide +kernel
theorem g_Desk_placeOrder_48 {X : cd_E} {kc ks : Nat} {h : cd_H} {Q : Option Value → cd_H → Prop} {v1 : Nat} {v2 : Int32} {v3 : Int32} {v4 : Int32} {v5 : Int32} (F : cc_ok h) (H : (((v2 ≤ v5) → (cd_W X m_AL_size 0 0 0 [some (.ref 79)] [] h (fun r2 h3 => ∃ x4 : Int32, r2 = some (.int x4) ∧ ((cc_ok h3) ∧ ((((12 ≤ x4) → (Q (some (.int (-5))) h3)) ∧ ((¬ 12 ≤ x4) → (cd_W X m_AL_size 0 0 0 [some (.ref 80)] [] h3 (fun r7 h8 => ∃ x9 : Int32, r7 = some (.int x9) ∧ ((cc_ok h8) ∧ (((((x9 + v4) ≤ 24) → (cd_W X m_Desk_keep 0 0 0 [some (.ref 64), some (.int v3), none] [] h8 (fun r12 h13 => ∃ b14 : Nat, r12 = some (.ref b14) ∧ ((cc_ok h13) ∧ ((cd_k h13 b14 = some (.inl 10)) ∧ (((((cd_i h13 b14 0) = 0) → (cd_W X m_Fat_answer 0 0 0 [some (.ref b14), some (.int x4)] [] h13 (fun r18 h19 => ∃ x20 : Int32, r18 = some (.int x20) ∧ ((cc_ok h19) ∧ (Q (some (.int x20)) h19))))) ∧ ((¬ (cd_i h13 b14 0) = 0) → (cd_W X m_Desk_makeOrder 2 7 0 [some (.ref 64), some (.ref v1), some (.int v2), none, none, none, none] [] h13 (fun r22 h23 => ∃ b24 : Nat, r22 = some (.ref b24) ∧ ((cc_ok h23) ∧ (cd_W X m_AL_add_LObjectZ 1 40 0 [some (.ref 79), some (.ref b24)] [] h23 (fun r26 h27 => ∃ x28 : Int32, r26 = some (.int x28) ∧ ((cc_ok h27) ∧ ((cd_k h27 b14 = some (.inl 10)) ∧ (cd_W X m_Fat_answer 0 0 0 [some (.ref b14), some (.int x4)] [] h27 (fun r31 h32 => ∃ x33 : Int32, r31 = some (.int x33) ∧ ((cc_ok h32) ∧ (Q (some (.int x33)) h32))))))))))))))))))) ∧ ((¬ (x9 + v4) ≤ 24) → (Q (some (.int (-5))) h8)))))))))))))) ∧ ((¬ v2 ≤ v5) → ((vp_in v5 32) ∧ (cd_W X m_Desk_provedPart 0 0 0 [some (.ref 64), some (.ref v1), some (.int (cd_i h 73 v5.toNatClampNeg)), none, none] [] h (fun r36 h37 => ∃ o38 : Option Nat, r36 = some (va_rf o38) ∧ ((cc_ok h37) ∧ ((((o38 = none) → (cd_W X m_Not_stringLength 0 0 0 [some (.ref 71), some (.int (cd_i h37 73 v5.toNatClampNeg)), none] [] h37 (fun r42 h43 => ∃ x44 : Int32, r42 = some (.int x44) ∧ ((cc_ok h43) ∧ (cd_W X m_Desk_placeOrder kc ks 48 [some (.ref 64), some (.ref v1), some (.int v2), some (.int (v3 + (2 + x44))), some (.int (v4 + 1)), some (.int (v5 + 1)), none] [] h43 Q))))) ∧ (∀ b41 : Nat, o38 = some b41 → (cd_W X m_Desk_placeOrder kc ks 48 [some (.ref 64), some (.ref v1), some (.int v2), some (.int (v3 + 1)), some (.int v4), some (.int (v5 + 1)), none] [] h37 Q))))))))))) : cd_W X m_Desk_placeOrder (kc + 3) (ks + 47) 48 [some (.ref 64), some (.ref v1), some (.int v2), some (.int v3), some (.int v4), some (.int v5), none] [] h Q := by
  refine cd_iload (i := 5) d_Desk_placeOrder_48 rfl ?_
  refine cd_iload_n (i := 2) d_Desk_placeOrder_50 rfl rfl ?_
  refine cd_icmp_ge (tgt := 103) d_Desk_placeOrder_51 (by decide) (fun t1 => ?_) (fun t1 => ?_)
  · replace H := H.1 t1
    refine cd_aload_n (i := 0) (v := .ref 64) d_Desk_placeOrder_103 rfl rfl (cd_isr_ref _) ?_
    refine cd_get (v := .ref 79) d_Desk_placeOrder_104 fl_Desk_75 (cc_k64 F) (congrArg va_rf (cc_r64_9 F)) ?_
    refine cd_callV (kc := (kc + 3)) (ks := (ks + 47)) (kc' := 0) (ks' := 0) (As := []) (S := []) d_Desk_placeOrder_107 ca_Desk_placeOrder_135 (cc_k79 F) rfl (Nat.le_of_ble_eq_true rfl) (Nat.le_of_ble_eq_true rfl) ?_
    refine cd_W.mono (fun r2 h3 H => ?_) H
    obtain ⟨x4, rfl, H⟩ := H
    obtain ⟨F5, H⟩ := H
    show cd_W X m_Desk_placeOrder (kc + 3) (ks + 47) 110 [some (.ref 64), some (.ref v1), some (.int v2), some (.int v3), some (.int v4), some (.int v5), none] [.int x4] h3 Q
    refine cd_istore (i := 5) d_Desk_placeOrder_110 (by decide) ?_
    show cd_W X m_Desk_placeOrder (kc + 3) (ks + 47) 112 [some (.ref 64), some (.ref v1), some (.int v2), some (.int v3), some (.int v4), some (.int x4), none] [] h3 Q
    refine cd_iload (i := 5) d_Desk_placeOrder_112 rfl ?_
    refine cd_bipush (v := 12) d_Desk_placeOrder_114 (by decide) ?_
    refine cd_icmp_ge (tgt := 134) d_Desk_placeOrder_116 (by decide) (fun t6 => ?_) (fun t6 => ?_)
    · replace H := H.1 t6
      refine cd_bipush (v := (-5)) d_Desk_placeOrder_134 (by decide) ?_
      exact cd_iret d_Desk_placeOrder_136 rfl rfl H
    · replace H := H.2 t6
      refine cd_aload_n (i := 0) (v := .ref 64) d_Desk_placeOrder_119 rfl rfl (cd_isr_ref _) ?_
      refine cd_get (v := .ref 80) d_Desk_placeOrder_120 fl_Desk_78 (cc_k64 F5) (congrArg va_rf (cc_r64_10 F5)) ?_
      refine cd_callV (kc := (kc + 3)) (ks := (ks + 47)) (kc' := 0) (ks' := 0) (As := []) (S := []) d_Desk_placeOrder_123 ca_Desk_placeOrder_135 (cc_k80 F5) rfl (Nat.le_of_ble_eq_true rfl) (Nat.le_of_ble_eq_true rfl) ?_
      refine cd_W.mono (fun r7 h8 H => ?_) H
      obtain ⟨x9, rfl, H⟩ := H
      obtain ⟨F10, H⟩ := H
      show cd_W X m_Desk_placeOrder (kc + 3) (ks + 47) 126 [some (.ref 64), some (.ref v1), some (.int v2), some (.int v3), some (.int v4), some (.int x4), none] [.int x9] h8 Q
      refine cd_iload (i := 4) d_Desk_placeOrder_126 rfl ?_
      refine cd_iadd d_Desk_placeOrder_128 ?_
      refine cd_bipush (v := 24) d_Desk_placeOrder_129 (by decide) ?_
      refine cd_icmp_le (tgt := 137) d_Desk_placeOrder_131 (by decide) (fun t11 => ?_) (fun t11 => ?_)
      · replace H := H.1 t11
        refine cd_aload_n (i := 0) (v := .ref 64) d_Desk_placeOrder_137 rfl rfl (cd_isr_ref _) ?_
        refine cd_iload_n (i := 3) d_Desk_placeOrder_138 rfl rfl ?_
        refine cd_callV (kc := (kc + 3)) (ks := (ks + 47)) (kc' := 0) (ks' := 0) (As := [.int v3]) (S := []) d_Desk_placeOrder_139 ca_Desk_placeOrder_150 (cc_k64 F10) rfl (Nat.le_of_ble_eq_true rfl) (Nat.le_of_ble_eq_true rfl) ?_
        refine cd_W.mono (fun r12 h13 H => ?_) H
        obtain ⟨b14, rfl, H⟩ := H
        obtain ⟨F15, H⟩ := H
        show cd_W X m_Desk_placeOrder (kc + 3) (ks + 47) 142 [some (.ref 64), some (.ref v1), some (.int v2), some (.int v3), some (.int v4), some (.int x4), none] [.ref b14] h13 Q
        refine cd_astore (i := 6) d_Desk_placeOrder_142 (by decide) (cd_isr_ref _) ?_
        show cd_W X m_Desk_placeOrder (kc + 3) (ks + 47) 144 [some (.ref 64), some (.ref v1), some (.int v2), some (.int v3), some (.int v4), some (.int x4), some (.ref b14)] [] h13 Q
        refine cd_aload (i := 6) (v := .ref b14) d_Desk_placeOrder_144 rfl (cd_isr_ref _) ?_
        obtain ⟨c16, H⟩ := H
        refine cd_get (v := .int (cd_i h13 b14 0)) d_Desk_placeOrder_146 fl_Desk_157 c16 rfl ?_
        refine cd_if_eq (tgt := 166) d_Desk_placeOrder_149 (by decide) (fun t17 => ?_) (fun t17 => ?_)
        · replace H := H.1 t17
          refine cd_aload (i := 6) (v := .ref b14) d_Desk_placeOrder_166 rfl (cd_isr_ref _) ?_
          refine cd_iload (i := 5) d_Desk_placeOrder_168 rfl ?_
          refine cd_callV (kc := (kc + 3)) (ks := (ks + 47)) (kc' := 0) (ks' := 0) (As := [.int x4]) (S := []) d_Desk_placeOrder_170 ca_Desk_placeOrder_334 c16 rfl (Nat.le_of_ble_eq_true rfl) (Nat.le_of_ble_eq_true rfl) ?_
          refine cd_W.mono (fun r18 h19 H => ?_) H
          obtain ⟨x20, rfl, H⟩ := H
          obtain ⟨F21, H⟩ := H
          show cd_W X m_Desk_placeOrder (kc + 3) (ks + 47) 173 [some (.ref 64), some (.ref v1), some (.int v2), some (.int v3), some (.int v4), some (.int x4), some (.ref b14)] [.int x20] h19 Q
          exact cd_iret d_Desk_placeOrder_173 rfl rfl H
        · replace H := H.2 t17
          refine cd_aload_n (i := 0) (v := .ref 64) d_Desk_placeOrder_152 rfl rfl (cd_isr_ref _) ?_
          refine cd_get (v := .ref 79) d_Desk_placeOrder_153 fl_Desk_75 (cc_k64 F15) (congrArg va_rf (cc_r64_9 F15)) ?_
          refine cd_aload_n (i := 0) (v := .ref 64) d_Desk_placeOrder_156 rfl rfl (cd_isr_ref _) ?_
          refine cd_aload_n (i := 1) (v := .ref v1) d_Desk_placeOrder_157 rfl rfl (cd_isr_ref _) ?_
          refine cd_iload_n (i := 2) d_Desk_placeOrder_158 rfl rfl ?_
          refine cd_callV (kc := (kc + 1)) (ks := (ks + 40)) (kc' := 2) (ks' := 7) (As := [.ref v1, .int v2]) (S := [.ref 79]) d_Desk_placeOrder_159 ca_Desk_placeOrder_353 (cc_k64 F15) rfl (Nat.le_of_ble_eq_true rfl) (Nat.le_of_ble_eq_true rfl) ?_
          refine cd_W.mono (fun r22 h23 H => ?_) H
          obtain ⟨b24, rfl, H⟩ := H
          obtain ⟨F25, H⟩ := H
          show cd_W X m_Desk_placeOrder (kc + 1) (ks + 40) 162 [some (.ref 64), some (.ref v1), some (.int v2), some (.int v3), some (.int v4), some (.int x4), some (.ref b14)] [.ref b24, .ref 79] h23 Q
          refine cd_callV (kc := (kc + 0)) (ks := (ks + 0)) (kc' := 1) (ks' := 40) (As := [.ref b24]) (S := []) d_Desk_placeOrder_162 ca_Desk_placeOrder_330 (cc_k79 F25) rfl (Nat.le_of_ble_eq_true rfl) (Nat.le_of_ble_eq_true rfl) ?_
          refine cd_W.mono (fun r26 h27 H => ?_) H
          obtain ⟨x28, rfl, H⟩ := H
          obtain ⟨F29, H⟩ := H
          show cd_W X m_Desk_placeOrder (kc + 0) (ks + 0) 165 [some (.ref 64), some (.ref v1), some (.int v2), some (.int v3), some (.int v4), some (.int x4), some (.ref b14)] [.int x28] h27 Q
          refine cd_pop d_Desk_placeOrder_165 rfl ?_
          refine cd_aload (i := 6) (v := .ref b14) d_Desk_placeOrder_166 rfl (cd_isr_ref _) ?_
          refine cd_iload (i := 5) d_Desk_placeOrder_168 rfl ?_
          obtain ⟨c30, H⟩ := H
          refine cd_callV (kc := (kc + 0)) (ks := (ks + 0)) (kc' := 0) (ks' := 0) (As := [.int x4]) (S := []) d_Desk_placeOrder_170 ca_Desk_placeOrder_334 c30 rfl (Nat.le_of_ble_eq_true rfl) (Nat.le_of_ble_eq_true rfl) ?_
          refine cd_W.mono (fun r31 h32 H => ?_) H
          obtain ⟨x33, rfl, H⟩ := H
          obtain ⟨F34, H⟩ := H
          show cd_W X m_Desk_placeOrder (kc + 0) (ks + 0) 173 [some (.ref 64), some (.ref v1), some (.int v2), some (.int v3), some (.int v4), some (.int x4), some (.ref b14)] [.int x33] h32 Q
          exact cd_iret d_Desk_placeOrder_173 rfl rfl H
      · replace H := H.2 t11
        refine cd_bipush (v := (-5)) d_Desk_placeOrder_134 (by decide) ?_
        exact cd_iret d_Desk_placeOrder_136 rfl rfl H
  · replace H := H.2 t1
    refine cd_aload_n (i := 0) (v := .ref 64) d_Desk_placeOrder_54 rfl rfl (cd_isr_ref _) ?_
    refine cd_aload_n (i := 1) (v := .ref v1) d_Desk_placeOrder_55 rfl rfl (cd_isr_ref _) ?_
    refine cd_aload_n (i := 0) (v := .ref 64) d_Desk_placeOrder_56 rfl rfl (cd_isr_ref _) ?_
    refine cd_get (v := .ref 73) d_Desk_placeOrder_57 fl_Desk_41 (cc_k64 F) (congrArg va_rf (cc_r64_4 F)) ?_
    refine cd_iload (i := 5) d_Desk_placeOrder_60 rfl ?_
    obtain ⟨c35, H⟩ := H
    refine cd_iald (j := v5) d_Desk_placeOrder_62 rfl (cc_k73 F) c35 ?_
    refine cd_callV (kc := (kc + 3)) (ks := (ks + 47)) (kc' := 0) (ks' := 0) (As := [.ref v1, .int (cd_i h 73 v5.toNatClampNeg)]) (S := []) d_Desk_placeOrder_63 ca_Desk_placeOrder_346 (cc_k64 F) rfl (Nat.le_of_ble_eq_true rfl) (Nat.le_of_ble_eq_true rfl) ?_
    refine cd_W.mono (fun r36 h37 H => ?_) H
    obtain ⟨o38, rfl, H⟩ := H
    obtain ⟨F39, H⟩ := H
    show cd_W X m_Desk_placeOrder (kc + 3) (ks + 47) 66 [some (.ref 64), some (.ref v1), some (.int v2), some (.int v3), some (.int v4), some (.int v5), none] [va_rf o38] h37 Q
    refine cd_ifnonnull (r := o38) (tgt := 94) d_Desk_placeOrder_66 (by decide) (fun b41 t40 => ?_) (fun t40 => ?_)
    · replace H := H.2 b41 t40
      refine cd_iinc (i := 3) (v := (v3 + 1)) d_Desk_placeOrder_94 rfl (cd_inc1 _) (by decide) ?_
      show cd_W X m_Desk_placeOrder (kc + 3) (ks + 47) 97 [some (.ref 64), some (.ref v1), some (.int v2), some (.int (v3 + 1)), some (.int v4), some (.int v5), none] [] h37 Q
      refine cd_iinc (i := 5) (v := (v5 + 1)) d_Desk_placeOrder_97 rfl (cd_inc1 _) (by decide) ?_
      show cd_W X m_Desk_placeOrder (kc + 3) (ks + 47) 100 [some (.ref 64), some (.ref v1), some (.int v2), some (.int (v3 + 1)), some (.int v4), some (.int (v5 + 1)), none] [] h37 Q
      refine cd_goto (tgt := 48) d_Desk_placeOrder_100 (by decide) ?_
      refine cd_W.budget (kc := kc) (ks := ks) (by omega) (by omega) ?_
      exact H
    · replace H := H.1 t40
      refine cd_iinc (i := 4) (v := (v4 + 1)) d_Desk_placeOrder_69 rfl (cd_inc1 _) (by decide) ?_
      show cd_W X m_Desk_placeOrder (kc + 3) (ks + 47) 72 [some (.ref 64), some (.ref v1), some (.int v2), some (.int v3), some (.int (v4 + 1)), some (.int v5), none] [] h37 Q
      refine cd_iload_n (i := 3) d_Desk_placeOrder_72 rfl rfl ?_
      refine cd_iconst (v := 2) d_Desk_placeOrder_73 (by decide) ?_
      refine cd_aload_n (i := 0) (v := .ref 64) d_Desk_placeOrder_74 rfl rfl (cd_isr_ref _) ?_
      refine cd_get (v := .ref 71) d_Desk_placeOrder_75 fl_Desk_37 (cc_k64 F39) (congrArg va_rf (cc_r64_3 F39)) ?_
      refine cd_aload_n (i := 0) (v := .ref 64) d_Desk_placeOrder_78 rfl rfl (cd_isr_ref _) ?_
      refine cd_get (v := .ref 73) d_Desk_placeOrder_79 fl_Desk_41 (cc_k64 F39) (congrArg va_rf (cc_r64_4 F39)) ?_
      refine cd_iload (i := 5) d_Desk_placeOrder_82 rfl ?_
      refine cd_iald (j := v5) d_Desk_placeOrder_84 rfl (cc_k73 F39) c35 ?_
      refine cd_callV (kc := (kc + 3)) (ks := (ks + 47)) (kc' := 0) (ks' := 0) (As := [.int (cd_i h37 73 v5.toNatClampNeg)]) (S := [.int 2, .int v3]) d_Desk_placeOrder_85 ca_Desk_placeOrder_350 (cc_k71 F39) rfl (Nat.le_of_ble_eq_true rfl) (Nat.le_of_ble_eq_true rfl) ?_
      refine cd_W.mono (fun r42 h43 H => ?_) H
      obtain ⟨x44, rfl, H⟩ := H
      obtain ⟨F45, H⟩ := H
      show cd_W X m_Desk_placeOrder (kc + 3) (ks + 47) 88 [some (.ref 64), some (.ref v1), some (.int v2), some (.int v3), some (.int (v4 + 1)), some (.int v5), none] [.int x44, .int 2, .int v3] h43 Q
      refine cd_iadd d_Desk_placeOrder_88 ?_
      refine cd_iadd d_Desk_placeOrder_89 ?_
      refine cd_istore_n (i := 3) d_Desk_placeOrder_90 rfl (by decide) ?_
      show cd_W X m_Desk_placeOrder (kc + 3) (ks + 47) 91 [some (.ref 64), some (.ref v1), some (.int v2), some (.int (v3 + (2 + x44))), some (.int (v4 + 1)), some (.int v5), none] [] h43 Q
      refine cd_goto (tgt := 97) d_Desk_placeOrder_91 (by decide) ?_
      refine cd_iinc (i := 5) (v := (v5 + 1)) d_Desk_placeOrder_97 rfl (cd_inc1 _) (by decide) ?_
      show cd_W X m_Desk_placeOrder (kc + 3) (ks + 47) 100 [some (.ref 64), some (.ref v1), some (.int v2), some (.int (v3 + (2 + x44))), some (.int (v4 + 1)), some (.int (v5 + 1)), none] [] h43 Q
      refine cd_goto (tgt := 48) d_Desk_placeOrder_100 (by decide) ?_
      refine cd_W.budget (kc := kc) (ks := ks) (by omega) (by omega) ?_
      exact H

abbrev m_Desk_startTrial : cd_M := (⟨"CertificateDesk", "startTrial", "(LCertificateDesk$Account;)I"⟩, prog_1_method_42_code, 5, some .int, 29, 1548)
theorem d_Desk_startTrial_0 : decode prog_1_method_42_code 0 = .ok (.aload_n 0, 1) := by decide +kernel
theorem d_Desk_startTrial_1 : decode prog_1_method_42_code 1 = .ok (.getfield 37, 3) := by decide +kernel
theorem d_Desk_startTrial_4 : decode prog_1_method_42_code 4 = .ok (.aload_n 0, 1) := by decide +kernel
theorem d_Desk_startTrial_5 : decode prog_1_method_42_code 5 = .ok (.getfield 37, 3) := by decide +kernel
theorem d_Desk_startTrial_8 : decode prog_1_method_42_code 8 = .ok (.iconst 0, 1) := by decide +kernel
theorem d_Desk_startTrial_9 : decode prog_1_method_42_code 9 = .ok (.ldc_w 386, 3) := by decide +kernel
theorem d_Desk_startTrial_12 : decode prog_1_method_42_code 12 = .ok (.invokevirtual 288, 3) := by decide +kernel
theorem ca_Desk_startTrial_288 {X : cd_E} : cd_CV X m_Desk_startTrial m_Not_field 288 2 6 := ⟨⟨by decide, kw_2_70, kw_1_3, ⟨by decide, by decide, by decide +kernel⟩, by decide, by decide⟩, ⟨_, rfl, rfl⟩, kw_2_68, kw_2_69, (Or.inl kw_2_67)⟩
theorem d_Desk_startTrial_15 : decode prog_1_method_42_code 15 = .ok (.invokevirtual 388, 3) := by decide +kernel
theorem kw_4_23 : (Jvm.Cond.methodLink "CertificateDesk" (388 : Nat) ({ cls := "CertificateDesk$Notation", name := "number", desc := "(I)I" } : Jvm.MethodName)) ∈ cd_tbl := tb_4 (List.mem_of_getElem? (i := 23) (by decide +kernel)) (by decide)
theorem kw_4_26 : (Jvm.Cond.code ({ cls := "CertificateDesk$Notation", name := "number", desc := "(I)I" } : Jvm.MethodName) prog_9_method_8_code (4 : Nat) (Option.some Jvm.ClassFile.FieldType.int)) ∈ cd_tbl := tb_4 (List.mem_of_getElem? (i := 26) (by decide +kernel)) (by decide)
theorem kw_4_24 : (Jvm.Cond.instanceMethod ({ cls := "CertificateDesk$Notation", name := "number", desc := "(I)I" } : Jvm.MethodName)) ∈ cd_tbl := tb_4 (List.mem_of_getElem? (i := 24) (by decide +kernel)) (by decide)
theorem kw_4_25 : (Jvm.Cond.selects "CertificateDesk$Notation" ({ cls := "CertificateDesk$Notation", name := "number", desc := "(I)I" } : Jvm.MethodName) ({ cls := "CertificateDesk$Notation", name := "number", desc := "(I)I" } : Jvm.MethodName)) ∈ cd_tbl := tb_4 (List.mem_of_getElem? (i := 25) (by decide +kernel)) (by decide)
theorem ca_Desk_startTrial_388 {X : cd_E} : cd_CV X m_Desk_startTrial m_Not_number 388 1 6 := ⟨⟨by decide, kw_4_26, kw_1_3, ⟨by decide, by decide, by decide +kernel⟩, by decide, by decide⟩, ⟨_, rfl, rfl⟩, kw_4_24, kw_4_25, (Or.inl kw_4_23)⟩
theorem d_Desk_startTrial_18 : decode prog_1_method_42_code 18 = .ok (.istore_n 2, 1) := by decide +kernel
theorem d_Desk_startTrial_19 : decode prog_1_method_42_code 19 = .ok (.aload_n 0, 1) := by decide +kernel
theorem d_Desk_startTrial_20 : decode prog_1_method_42_code 20 = .ok (.getfield 37, 3) := by decide +kernel
theorem d_Desk_startTrial_23 : decode prog_1_method_42_code 23 = .ok (.aload_n 0, 1) := by decide +kernel
theorem d_Desk_startTrial_24 : decode prog_1_method_42_code 24 = .ok (.getfield 37, 3) := by decide +kernel
theorem d_Desk_startTrial_27 : decode prog_1_method_42_code 27 = .ok (.iconst 0, 1) := by decide +kernel
theorem d_Desk_startTrial_28 : decode prog_1_method_42_code 28 = .ok (.ldc_w 390, 3) := by decide +kernel
theorem d_Desk_startTrial_31 : decode prog_1_method_42_code 31 = .ok (.invokevirtual 288, 3) := by decide +kernel
theorem d_Desk_startTrial_34 : decode prog_1_method_42_code 34 = .ok (.invokevirtual 388, 3) := by decide +kernel
theorem d_Desk_startTrial_37 : decode prog_1_method_42_code 37 = .ok (.istore_n 3, 1) := by decide +kernel
theorem d_Desk_startTrial_38 : decode prog_1_method_42_code 38 = .ok (.iload_n 2, 1) := by decide +kernel
theorem d_Desk_startTrial_39 : decode prog_1_method_42_code 39 = .ok (.iconst (-1), 1) := by decide +kernel
theorem d_Desk_startTrial_40 : decode prog_1_method_42_code 40 = .ok (.if_icmp .eq 10, 3) := by decide +kernel
theorem d_Desk_startTrial_50 : decode prog_1_method_42_code 50 = .ok (.iconst (-1), 1) := by decide +kernel
theorem d_Desk_startTrial_51 : decode prog_1_method_42_code 51 = .ok (.ireturn, 1) := by decide +kernel
theorem d_Desk_startTrial_43 : decode prog_1_method_42_code 43 = .ok (.iload_n 3, 1) := by decide +kernel
theorem d_Desk_startTrial_44 : decode prog_1_method_42_code 44 = .ok (.invokestatic 121, 3) := by decide +kernel
theorem ca_Desk_startTrial_121 {X : cd_E} : cd_CS X m_Desk_startTrial m_Desk_isWay 121 1 := ⟨⟨by decide, kw_4_30, kw_1_1, ⟨by decide, by decide, by decide +kernel⟩, by decide, by decide⟩, kw_4_29, (Or.inl kw_4_28)⟩
theorem d_Desk_startTrial_47 : decode prog_1_method_42_code 47 = .ok (.ifCond .ne 5, 3) := by decide +kernel
theorem d_Desk_startTrial_52 : decode prog_1_method_42_code 52 = .ok (.aload_n 0, 1) := by decide +kernel
theorem d_Desk_startTrial_53 : decode prog_1_method_42_code 53 = .ok (.iload_n 2, 1) := by decide +kernel
theorem d_Desk_startTrial_54 : decode prog_1_method_42_code 54 = .ok (.invokevirtual 117, 3) := by decide +kernel
theorem kw_4_31 : (Jvm.Cond.methodLink "CertificateDesk" (117 : Nat) ({ cls := "CertificateDesk", name := "authorizationAt", desc := "(I)LCertificateDesk$Authorization;" } : Jvm.MethodName)) ∈ cd_tbl := tb_4 (List.mem_of_getElem? (i := 31) (by decide +kernel)) (by decide)
theorem kw_4_34 : (Jvm.Cond.code ({ cls := "CertificateDesk", name := "authorizationAt", desc := "(I)LCertificateDesk$Authorization;" } : Jvm.MethodName) prog_1_method_24_code (2 : Nat) (Option.some (Jvm.ClassFile.FieldType.object "CertificateDesk$Authorization"))) ∈ cd_tbl := tb_4 (List.mem_of_getElem? (i := 34) (by decide +kernel)) (by decide)
theorem kw_4_33 : (Jvm.Cond.instanceMethod ({ cls := "CertificateDesk", name := "authorizationAt", desc := "(I)LCertificateDesk$Authorization;" } : Jvm.MethodName)) ∈ cd_tbl := tb_4 (List.mem_of_getElem? (i := 33) (by decide +kernel)) (by decide)
theorem kp_24 : Cond.selects "CertificateDesk" ⟨"CertificateDesk", "authorizationAt", "(I)LCertificateDesk$Authorization;"⟩ ⟨"CertificateDesk", "authorizationAt", "(I)LCertificateDesk$Authorization;"⟩ ∈ cd_tbl := cd_sel (List.mem_of_getElem? (i := 24) (by decide +kernel)) (by decide)
theorem ca_Desk_startTrial_117 {X : cd_E} : cd_CV X m_Desk_startTrial m_Desk_authorizationAt 117 1 0 := ⟨⟨by decide, kw_4_34, kw_1_1, ⟨by decide, by decide, by decide +kernel⟩, by decide, by decide⟩, ⟨_, rfl, rfl⟩, kw_4_33, kp_24, (Or.inl kw_4_31)⟩
theorem d_Desk_startTrial_57 : decode prog_1_method_42_code 57 = .ok (.astore 4, 2) := by decide +kernel
theorem d_Desk_startTrial_59 : decode prog_1_method_42_code 59 = .ok (.aload_n 1, 1) := by decide +kernel
theorem d_Desk_startTrial_60 : decode prog_1_method_42_code 60 = .ok (.ifnull 26, 3) := by decide +kernel
theorem d_Desk_startTrial_86 : decode prog_1_method_42_code 86 = .ok (.bipush (-4), 2) := by decide +kernel
theorem d_Desk_startTrial_88 : decode prog_1_method_42_code 88 = .ok (.ireturn, 1) := by decide +kernel
theorem d_Desk_startTrial_63 : decode prog_1_method_42_code 63 = .ok (.aload 4, 2) := by decide +kernel
theorem d_Desk_startTrial_65 : decode prog_1_method_42_code 65 = .ok (.ifnull 21, 3) := by decide +kernel
theorem d_Desk_startTrial_68 : decode prog_1_method_42_code 68 = .ok (.aload 4, 2) := by decide +kernel
theorem d_Desk_startTrial_70 : decode prog_1_method_42_code 70 = .ok (.getfield 246, 3) := by decide +kernel
theorem d_Desk_startTrial_73 : decode prog_1_method_42_code 73 = .ok (.aload_n 1, 1) := by decide +kernel
theorem d_Desk_startTrial_74 : decode prog_1_method_42_code 74 = .ok (.if_acmp .ne 12, 3) := by decide +kernel
theorem d_Desk_startTrial_77 : decode prog_1_method_42_code 77 = .ok (.aload_n 0, 1) := by decide +kernel
theorem d_Desk_startTrial_78 : decode prog_1_method_42_code 78 = .ok (.aload 4, 2) := by decide +kernel
theorem d_Desk_startTrial_80 : decode prog_1_method_42_code 80 = .ok (.invokevirtual 142, 3) := by decide +kernel
theorem ca_Desk_startTrial_142 {X : cd_E} : cd_CV X m_Desk_startTrial m_Desk_authorizationState 142 1 0 := ⟨⟨by decide, kw_3_26, kw_1_1, ⟨by decide, by decide, by decide +kernel⟩, by decide, by decide⟩, ⟨_, rfl, rfl⟩, kw_3_25, kp_20, (Or.inl kw_3_23)⟩
theorem d_Desk_startTrial_83 : decode prog_1_method_42_code 83 = .ok (.ifCond .eq 6, 3) := by decide +kernel
theorem d_Desk_startTrial_89 : decode prog_1_method_42_code 89 = .ok (.aload 4, 2) := by decide +kernel
theorem d_Desk_startTrial_91 : decode prog_1_method_42_code 91 = .ok (.iload_n 3, 1) := by decide +kernel
theorem d_Desk_startTrial_92 : decode prog_1_method_42_code 92 = .ok (.putfield 154, 3) := by decide +kernel
theorem fp_Desk_startTrial_154 {X : cd_E} : cd_FP X m_Desk_startTrial 154 2 7 .int := cd_FP.of cl_2 rfl rfl (by decide) kw_3_239 (Or.inl rfl) (Or.inl rfl)
theorem d_Desk_startTrial_95 : decode prog_1_method_42_code 95 = .ok (.iconst 0, 1) := by decide +kernel
theorem d_Desk_startTrial_96 : decode prog_1_method_42_code 96 = .ok (.ireturn, 1) := by decide +kernel
theorem g_Desk_startTrial {X : cd_E} {kc ks : Nat} {h : cd_H} {Q : Option Value → cd_H → Prop} {p1 : Option Nat} (F : cc_ok h) (H : cd_W X m_Not_field 0 0 0 [some (.ref 71), some (.int 0), some (.ref 10), none, none, none, none] [] h (fun r1 h2 => ∃ x3 : Int32, r1 = some (.int x3) ∧ ((cc_ok h2) ∧ (cd_W X m_Not_number 0 0 0 [some (.ref 71), some (.int x3), none, none] [] h2 (fun r5 h6 => ∃ x7 : Int32, r5 = some (.int x7) ∧ ((cc_ok h6) ∧ (cd_W X m_Not_field 0 0 0 [some (.ref 71), some (.int 0), some (.ref 11), none, none, none, none] [] h6 (fun r9 h10 => ∃ x11 : Int32, r9 = some (.int x11) ∧ ((cc_ok h10) ∧ (cd_W X m_Not_number 0 0 0 [some (.ref 71), some (.int x11), none, none] [] h10 (fun r13 h14 => ∃ x15 : Int32, r13 = some (.int x15) ∧ ((cc_ok h14) ∧ ((((x7 = (-1)) → (Q (some (.int (-1))) h14)) ∧ ((¬ x7 = (-1)) → (cd_W X m_Desk_isWay 0 0 0 [some (.int x15)] [] h14 (fun r18 h19 => ∃ x20 : Int32, r18 = some (.int x20) ∧ ((cc_ok h19) ∧ ((((¬ x20 = 0) → (cd_W X m_Desk_authorizationAt 0 0 0 [some (.ref 64), some (.int x7)] [] h19 (fun r23 h24 => ∃ o25 : Option Nat, r23 = some (va_rf o25) ∧ ((cc_ok h24) ∧ ((((p1 = none) → (Q (some (.int (-4))) h24)) ∧ (∀ b28 : Nat, p1 = some b28 → ((((o25 = none) → (Q (some (.int (-4))) h24)) ∧ (∀ b30 : Nat, o25 = some b30 → ((cd_k h24 b30 = some (.inl 2)) ∧ ((cd_apart (cd_r h24 b30 1) (some b28)) ∧ ((((¬ (cd_r h24 b30 1) = (some b28)) → (Q (some (.int (-4))) h24)) ∧ (((cd_r h24 b30 1) = (some b28)) → (cd_W X m_Desk_authorizationState 0 0 0 [some (.ref 64), some (.ref b30)] [] h24 (fun r34 h35 => ∃ x36 : Int32, r34 = some (.int x36) ∧ ((cc_ok h35) ∧ ((((x36 = 0) → ((cd_k h35 b30 = some (.inl 2)) ∧ ((64 ≤ b30) ∧ (Q (some (.int 0)) (cd_si h35 b30 7 x15))))) ∧ ((¬ x36 = 0) → (Q (some (.int (-4))) h35)))))))))))))))))))))) ∧ ((x20 = 0) → (Q (some (.int (-1))) h19)))))))))))))))))))))) : cd_W X m_Desk_startTrial kc ks 0 [some (.ref 64), some (va_rf p1), none, none, none] [] h Q := by
  refine cd_aload_n (i := 0) (v := .ref 64) d_Desk_startTrial_0 rfl rfl (cd_isr_ref _) ?_
  refine cd_get (v := .ref 71) d_Desk_startTrial_1 fl_Desk_37 (cc_k64 F) (congrArg va_rf (cc_r64_3 F)) ?_
  refine cd_aload_n (i := 0) (v := .ref 64) d_Desk_startTrial_4 rfl rfl (cd_isr_ref _) ?_
  refine cd_get (v := .ref 71) d_Desk_startTrial_5 fl_Desk_37 (cc_k64 F) (congrArg va_rf (cc_r64_3 F)) ?_
  refine cd_iconst (v := 0) d_Desk_startTrial_8 (by decide) ?_
  refine cd_ldcS d_Desk_startTrial_9 (tx := "auth") (i := 10) (List.mem_of_getElem? (i := 5) rfl) ?_
  refine cd_callV (kc := kc) (ks := ks) (kc' := 0) (ks' := 0) (As := [.int 0, .ref 10]) (S := [.ref 71]) d_Desk_startTrial_12 ca_Desk_startTrial_288 (cc_k71 F) rfl (Nat.le_of_ble_eq_true rfl) (Nat.le_of_ble_eq_true rfl) ?_
  refine cd_W.mono (fun r1 h2 H => ?_) H
  obtain ⟨x3, rfl, H⟩ := H
  obtain ⟨F4, H⟩ := H
  show cd_W X m_Desk_startTrial kc ks 15 [some (.ref 64), some (va_rf p1), none, none, none] [.int x3, .ref 71] h2 Q
  refine cd_callV (kc := kc) (ks := ks) (kc' := 0) (ks' := 0) (As := [.int x3]) (S := []) d_Desk_startTrial_15 ca_Desk_startTrial_388 (cc_k71 F4) rfl (Nat.le_of_ble_eq_true rfl) (Nat.le_of_ble_eq_true rfl) ?_
  refine cd_W.mono (fun r5 h6 H => ?_) H
  obtain ⟨x7, rfl, H⟩ := H
  obtain ⟨F8, H⟩ := H
  show cd_W X m_Desk_startTrial kc ks 18 [some (.ref 64), some (va_rf p1), none, none, none] [.int x7] h6 Q
  refine cd_istore_n (i := 2) d_Desk_startTrial_18 rfl (by decide) ?_
  show cd_W X m_Desk_startTrial kc ks 19 [some (.ref 64), cd_kl (some (va_rf p1)), some (.int x7), none, none] [] h6 Q
  rw [cd_kl_rf]
  refine cd_aload_n (i := 0) (v := .ref 64) d_Desk_startTrial_19 rfl rfl (cd_isr_ref _) ?_
  refine cd_get (v := .ref 71) d_Desk_startTrial_20 fl_Desk_37 (cc_k64 F8) (congrArg va_rf (cc_r64_3 F8)) ?_
  refine cd_aload_n (i := 0) (v := .ref 64) d_Desk_startTrial_23 rfl rfl (cd_isr_ref _) ?_
  refine cd_get (v := .ref 71) d_Desk_startTrial_24 fl_Desk_37 (cc_k64 F8) (congrArg va_rf (cc_r64_3 F8)) ?_
  refine cd_iconst (v := 0) d_Desk_startTrial_27 (by decide) ?_
  refine cd_ldcS d_Desk_startTrial_28 (tx := "way") (i := 11) (List.mem_of_getElem? (i := 6) rfl) ?_
  refine cd_callV (kc := kc) (ks := ks) (kc' := 0) (ks' := 0) (As := [.int 0, .ref 11]) (S := [.ref 71]) d_Desk_startTrial_31 ca_Desk_startTrial_288 (cc_k71 F8) rfl (Nat.le_of_ble_eq_true rfl) (Nat.le_of_ble_eq_true rfl) ?_
  refine cd_W.mono (fun r9 h10 H => ?_) H
  obtain ⟨x11, rfl, H⟩ := H
  obtain ⟨F12, H⟩ := H
  show cd_W X m_Desk_startTrial kc ks 34 [some (.ref 64), some (va_rf p1), some (.int x7), none, none] [.int x11, .ref 71] h10 Q
  refine cd_callV (kc := kc) (ks := ks) (kc' := 0) (ks' := 0) (As := [.int x11]) (S := []) d_Desk_startTrial_34 ca_Desk_startTrial_388 (cc_k71 F12) rfl (Nat.le_of_ble_eq_true rfl) (Nat.le_of_ble_eq_true rfl) ?_
  refine cd_W.mono (fun r13 h14 H => ?_) H
  obtain ⟨x15, rfl, H⟩ := H
  obtain ⟨F16, H⟩ := H
  show cd_W X m_Desk_startTrial kc ks 37 [some (.ref 64), some (va_rf p1), some (.int x7), none, none] [.int x15] h14 Q
  refine cd_istore_n (i := 3) d_Desk_startTrial_37 rfl (by decide) ?_
  show cd_W X m_Desk_startTrial kc ks 38 [some (.ref 64), some (va_rf p1), some (.int x7), some (.int x15), none] [] h14 Q
  refine cd_iload_n (i := 2) d_Desk_startTrial_38 rfl rfl ?_
  refine cd_iconst (v := (-1)) d_Desk_startTrial_39 (by decide) ?_
  refine cd_icmp_eq (tgt := 50) d_Desk_startTrial_40 (by decide) (fun t17 => ?_) (fun t17 => ?_)
  · replace H := H.1 t17
    refine cd_iconst (v := (-1)) d_Desk_startTrial_50 (by decide) ?_
    exact cd_iret d_Desk_startTrial_51 rfl rfl H
  · replace H := H.2 t17
    refine cd_iload_n (i := 3) d_Desk_startTrial_43 rfl rfl ?_
    refine cd_callS (kc := kc) (ks := ks) (kc' := 0) (ks' := 0) (As := [.int x15]) (S := []) d_Desk_startTrial_44 ca_Desk_startTrial_121 rfl (Nat.le_of_ble_eq_true rfl) (Nat.le_of_ble_eq_true rfl) ?_
    refine cd_W.mono (fun r18 h19 H => ?_) H
    obtain ⟨x20, rfl, H⟩ := H
    obtain ⟨F21, H⟩ := H
    show cd_W X m_Desk_startTrial kc ks 47 [some (.ref 64), some (va_rf p1), some (.int x7), some (.int x15), none] [.int x20] h19 Q
    refine cd_if_ne (tgt := 52) d_Desk_startTrial_47 (by decide) (fun t22 => ?_) (fun t22 => ?_)
    · replace H := H.1 t22
      refine cd_aload_n (i := 0) (v := .ref 64) d_Desk_startTrial_52 rfl rfl (cd_isr_ref _) ?_
      refine cd_iload_n (i := 2) d_Desk_startTrial_53 rfl rfl ?_
      refine cd_callV (kc := kc) (ks := ks) (kc' := 0) (ks' := 0) (As := [.int x7]) (S := []) d_Desk_startTrial_54 ca_Desk_startTrial_117 (cc_k64 F21) rfl (Nat.le_of_ble_eq_true rfl) (Nat.le_of_ble_eq_true rfl) ?_
      refine cd_W.mono (fun r23 h24 H => ?_) H
      obtain ⟨o25, rfl, H⟩ := H
      obtain ⟨F26, H⟩ := H
      show cd_W X m_Desk_startTrial kc ks 57 [some (.ref 64), some (va_rf p1), some (.int x7), some (.int x15), none] [va_rf o25] h24 Q
      refine cd_astore (i := 4) d_Desk_startTrial_57 (by decide) (cd_isr_rf _) ?_
      show cd_W X m_Desk_startTrial kc ks 59 [some (.ref 64), some (va_rf p1), some (.int x7), some (.int x15), some (va_rf o25)] [] h24 Q
      refine cd_aload_n (i := 1) (v := va_rf p1) d_Desk_startTrial_59 rfl rfl (cd_isr_rf _) ?_
      refine cd_ifnull (r := p1) (tgt := 86) d_Desk_startTrial_60 (by decide) (fun t27 => ?_) (fun b28 t27 => ?_)
      · replace H := H.1 t27
        rw [cd_rfn t27]
        refine cd_bipush (v := (-4)) d_Desk_startTrial_86 (by decide) ?_
        exact cd_iret d_Desk_startTrial_88 rfl rfl H
      · replace H := H.2 b28 t27
        rw [cd_rfs t27]
        refine cd_aload (i := 4) (v := va_rf o25) d_Desk_startTrial_63 rfl (cd_isr_rf _) ?_
        refine cd_ifnull (r := o25) (tgt := 86) d_Desk_startTrial_65 (by decide) (fun t29 => ?_) (fun b30 t29 => ?_)
        · replace H := H.1 t29
          rw [cd_rfn t29]
          refine cd_bipush (v := (-4)) d_Desk_startTrial_86 (by decide) ?_
          exact cd_iret d_Desk_startTrial_88 rfl rfl H
        · replace H := H.2 b30 t29
          rw [cd_rfs t29]
          refine cd_aload (i := 4) (v := .ref b30) d_Desk_startTrial_68 rfl (cd_isr_ref _) ?_
          obtain ⟨c31, H⟩ := H
          refine cd_get (v := va_rf (cd_r h24 b30 1)) d_Desk_startTrial_70 fl_Desk_246 c31 rfl ?_
          refine cd_aload_n (i := 1) (v := .ref b28) d_Desk_startTrial_73 rfl rfl (cd_isr_ref _) ?_
          obtain ⟨c32, H⟩ := H
          refine cd_acmp_ne (rx := (cd_r h24 b30 1)) (ry := (some b28)) (tgt := 86) d_Desk_startTrial_74 (by decide) c32 (fun t33 => ?_) (fun t33 => ?_)
          · replace H := H.1 t33
            refine cd_bipush (v := (-4)) d_Desk_startTrial_86 (by decide) ?_
            exact cd_iret d_Desk_startTrial_88 rfl rfl H
          · replace H := H.2 t33
            refine cd_aload_n (i := 0) (v := .ref 64) d_Desk_startTrial_77 rfl rfl (cd_isr_ref _) ?_
            refine cd_aload (i := 4) (v := .ref b30) d_Desk_startTrial_78 rfl (cd_isr_ref _) ?_
            refine cd_callV (kc := kc) (ks := ks) (kc' := 0) (ks' := 0) (As := [.ref b30]) (S := []) d_Desk_startTrial_80 ca_Desk_startTrial_142 (cc_k64 F26) rfl (Nat.le_of_ble_eq_true rfl) (Nat.le_of_ble_eq_true rfl) ?_
            refine cd_W.mono (fun r34 h35 H => ?_) H
            obtain ⟨x36, rfl, H⟩ := H
            obtain ⟨F37, H⟩ := H
            show cd_W X m_Desk_startTrial kc ks 83 [some (.ref 64), some (.ref b28), some (.int x7), some (.int x15), some (.ref b30)] [.int x36] h35 Q
            refine cd_if_eq (tgt := 89) d_Desk_startTrial_83 (by decide) (fun t38 => ?_) (fun t38 => ?_)
            · replace H := H.1 t38
              refine cd_aload (i := 4) (v := .ref b30) d_Desk_startTrial_89 rfl (cd_isr_ref _) ?_
              refine cd_iload_n (i := 3) d_Desk_startTrial_91 rfl rfl ?_
              obtain ⟨c39, H⟩ := H
              obtain ⟨c40, H⟩ := H
              refine cd_putI d_Desk_startTrial_92 fp_Desk_startTrial_154 (fun _ _ _ => rfl) c39 c40 rfl rfl ?_
              refine cd_iconst (v := 0) d_Desk_startTrial_95 (by decide) ?_
              exact cd_iret d_Desk_startTrial_96 rfl rfl H
            · replace H := H.2 t38
              refine cd_bipush (v := (-4)) d_Desk_startTrial_86 (by decide) ?_
              exact cd_iret d_Desk_startTrial_88 rfl rfl H
    · replace H := H.2 t22
      refine cd_iconst (v := (-1)) d_Desk_startTrial_50 (by decide) ?_
      exact cd_iret d_Desk_startTrial_51 rfl rfl H

abbrev m_Desk_finishOrder : cd_M := (⟨"CertificateDesk", "finishOrder", "(LCertificateDesk$Account;)I"⟩, prog_1_method_43_code, 9, some .int, 30, 1548)
theorem d_Desk_finishOrder_0 : decode prog_1_method_43_code 0 = .ok (.aload_n 0, 1) := by decide +kernel
theorem d_Desk_finishOrder_1 : decode prog_1_method_43_code 1 = .ok (.getfield 37, 3) := by decide +kernel
theorem d_Desk_finishOrder_4 : decode prog_1_method_43_code 4 = .ok (.aload_n 0, 1) := by decide +kernel
theorem d_Desk_finishOrder_5 : decode prog_1_method_43_code 5 = .ok (.getfield 37, 3) := by decide +kernel
theorem d_Desk_finishOrder_8 : decode prog_1_method_43_code 8 = .ok (.iconst 0, 1) := by decide +kernel
theorem d_Desk_finishOrder_9 : decode prog_1_method_43_code 9 = .ok (.ldc_w 301, 3) := by decide +kernel
theorem d_Desk_finishOrder_12 : decode prog_1_method_43_code 12 = .ok (.invokevirtual 288, 3) := by decide +kernel
theorem ca_Desk_finishOrder_288 {X : cd_E} : cd_CV X m_Desk_finishOrder m_Not_field 288 2 6 := ⟨⟨by decide, kw_2_70, kw_1_3, ⟨by decide, by decide, by decide +kernel⟩, by decide, by decide⟩, ⟨_, rfl, rfl⟩, kw_2_68, kw_2_69, (Or.inl kw_2_67)⟩
theorem d_Desk_finishOrder_15 : decode prog_1_method_43_code 15 = .ok (.invokevirtual 388, 3) := by decide +kernel
theorem ca_Desk_finishOrder_388 {X : cd_E} : cd_CV X m_Desk_finishOrder m_Not_number 388 1 6 := ⟨⟨by decide, kw_4_26, kw_1_3, ⟨by decide, by decide, by decide +kernel⟩, by decide, by decide⟩, ⟨_, rfl, rfl⟩, kw_4_24, kw_4_25, (Or.inl kw_4_23)⟩
theorem d_Desk_finishOrder_18 : decode prog_1_method_43_code 18 = .ok (.istore_n 2, 1) := by decide +kernel
theorem d_Desk_finishOrder_19 : decode prog_1_method_43_code 19 = .ok (.aload_n 0, 1) := by decide +kernel
theorem d_Desk_finishOrder_20 : decode prog_1_method_43_code 20 = .ok (.getfield 37, 3) := by decide +kernel
theorem d_Desk_finishOrder_23 : decode prog_1_method_43_code 23 = .ok (.iconst 0, 1) := by decide +kernel
theorem d_Desk_finishOrder_24 : decode prog_1_method_43_code 24 = .ok (.ldc_w 392, 3) := by decide +kernel
theorem d_Desk_finishOrder_27 : decode prog_1_method_43_code 27 = .ok (.invokevirtual 288, 3) := by decide +kernel
theorem d_Desk_finishOrder_30 : decode prog_1_method_43_code 30 = .ok (.istore_n 3, 1) := by decide +kernel
theorem d_Desk_finishOrder_31 : decode prog_1_method_43_code 31 = .ok (.aload_n 0, 1) := by decide +kernel
theorem d_Desk_finishOrder_32 : decode prog_1_method_43_code 32 = .ok (.getfield 37, 3) := by decide +kernel
theorem d_Desk_finishOrder_35 : decode prog_1_method_43_code 35 = .ok (.aload_n 0, 1) := by decide +kernel
theorem d_Desk_finishOrder_36 : decode prog_1_method_43_code 36 = .ok (.getfield 37, 3) := by decide +kernel
theorem d_Desk_finishOrder_39 : decode prog_1_method_43_code 39 = .ok (.iload_n 3, 1) := by decide +kernel
theorem d_Desk_finishOrder_40 : decode prog_1_method_43_code 40 = .ok (.ldc_w 394, 3) := by decide +kernel
theorem d_Desk_finishOrder_43 : decode prog_1_method_43_code 43 = .ok (.invokevirtual 288, 3) := by decide +kernel
theorem d_Desk_finishOrder_46 : decode prog_1_method_43_code 46 = .ok (.invokevirtual 388, 3) := by decide +kernel
theorem d_Desk_finishOrder_49 : decode prog_1_method_43_code 49 = .ok (.istore 4, 2) := by decide +kernel
theorem d_Desk_finishOrder_51 : decode prog_1_method_43_code 51 = .ok (.aload_n 0, 1) := by decide +kernel
theorem d_Desk_finishOrder_52 : decode prog_1_method_43_code 52 = .ok (.getfield 37, 3) := by decide +kernel
theorem d_Desk_finishOrder_55 : decode prog_1_method_43_code 55 = .ok (.aload_n 0, 1) := by decide +kernel
theorem d_Desk_finishOrder_56 : decode prog_1_method_43_code 56 = .ok (.getfield 37, 3) := by decide +kernel
theorem d_Desk_finishOrder_59 : decode prog_1_method_43_code 59 = .ok (.iload_n 3, 1) := by decide +kernel
theorem d_Desk_finishOrder_60 : decode prog_1_method_43_code 60 = .ok (.ldc_w 337, 3) := by decide +kernel
theorem d_Desk_finishOrder_63 : decode prog_1_method_43_code 63 = .ok (.invokevirtual 288, 3) := by decide +kernel
theorem d_Desk_finishOrder_66 : decode prog_1_method_43_code 66 = .ok (.aload_n 0, 1) := by decide +kernel
theorem d_Desk_finishOrder_67 : decode prog_1_method_43_code 67 = .ok (.getfield 41, 3) := by decide +kernel
theorem d_Desk_finishOrder_70 : decode prog_1_method_43_code 70 = .ok (.invokevirtual 339, 3) := by decide +kernel
theorem ca_Desk_finishOrder_339 {X : cd_E} : cd_CV X m_Desk_finishOrder m_Not_strings 339 2 6 := ⟨⟨by decide, kw_3_2, kw_1_3, ⟨by decide, by decide, by decide +kernel⟩, by decide, by decide⟩, ⟨_, rfl, rfl⟩, kw_3_0, kw_3_1, (Or.inl kw_2_239)⟩
theorem d_Desk_finishOrder_73 : decode prog_1_method_43_code 73 = .ok (.istore 5, 2) := by decide +kernel
theorem d_Desk_finishOrder_75 : decode prog_1_method_43_code 75 = .ok (.iload_n 2, 1) := by decide +kernel
theorem d_Desk_finishOrder_76 : decode prog_1_method_43_code 76 = .ok (.iconst (-1), 1) := by decide +kernel
theorem d_Desk_finishOrder_77 : decode prog_1_method_43_code 77 = .ok (.if_icmp .eq 15, 3) := by decide +kernel
theorem d_Desk_finishOrder_92 : decode prog_1_method_43_code 92 = .ok (.iconst (-1), 1) := by decide +kernel
theorem d_Desk_finishOrder_93 : decode prog_1_method_43_code 93 = .ok (.ireturn, 1) := by decide +kernel
theorem d_Desk_finishOrder_80 : decode prog_1_method_43_code 80 = .ok (.iload 4, 2) := by decide +kernel
theorem d_Desk_finishOrder_82 : decode prog_1_method_43_code 82 = .ok (.iconst (-1), 1) := by decide +kernel
theorem d_Desk_finishOrder_83 : decode prog_1_method_43_code 83 = .ok (.if_icmp .eq 9, 3) := by decide +kernel
theorem d_Desk_finishOrder_86 : decode prog_1_method_43_code 86 = .ok (.iload 5, 2) := by decide +kernel
theorem d_Desk_finishOrder_88 : decode prog_1_method_43_code 88 = .ok (.iconst (-1), 1) := by decide +kernel
theorem d_Desk_finishOrder_89 : decode prog_1_method_43_code 89 = .ok (.if_icmp .ne 5, 3) := by decide +kernel
theorem d_Desk_finishOrder_94 : decode prog_1_method_43_code 94 = .ok (.aload_n 0, 1) := by decide +kernel
theorem d_Desk_finishOrder_95 : decode prog_1_method_43_code 95 = .ok (.iload_n 2, 1) := by decide +kernel
theorem d_Desk_finishOrder_96 : decode prog_1_method_43_code 96 = .ok (.invokevirtual 190, 3) := by decide +kernel
theorem kw_4_42 : (Jvm.Cond.methodLink "CertificateDesk" (190 : Nat) ({ cls := "CertificateDesk", name := "orderAt", desc := "(I)LCertificateDesk$Order;" } : Jvm.MethodName)) ∈ cd_tbl := tb_4 (List.mem_of_getElem? (i := 42) (by decide +kernel)) (by decide)
theorem kw_4_45 : (Jvm.Cond.code ({ cls := "CertificateDesk", name := "orderAt", desc := "(I)LCertificateDesk$Order;" } : Jvm.MethodName) prog_1_method_23_code (2 : Nat) (Option.some (Jvm.ClassFile.FieldType.object "CertificateDesk$Order"))) ∈ cd_tbl := tb_4 (List.mem_of_getElem? (i := 45) (by decide +kernel)) (by decide)
theorem kw_4_44 : (Jvm.Cond.instanceMethod ({ cls := "CertificateDesk", name := "orderAt", desc := "(I)LCertificateDesk$Order;" } : Jvm.MethodName)) ∈ cd_tbl := tb_4 (List.mem_of_getElem? (i := 44) (by decide +kernel)) (by decide)
theorem kp_26 : Cond.selects "CertificateDesk" ⟨"CertificateDesk", "orderAt", "(I)LCertificateDesk$Order;"⟩ ⟨"CertificateDesk", "orderAt", "(I)LCertificateDesk$Order;"⟩ ∈ cd_tbl := cd_sel (List.mem_of_getElem? (i := 26) (by decide +kernel)) (by decide)
theorem ca_Desk_finishOrder_190 {X : cd_E} : cd_CV X m_Desk_finishOrder m_Desk_orderAt 190 1 0 := ⟨⟨by decide, kw_4_45, kw_1_1, ⟨by decide, by decide, by decide +kernel⟩, by decide, by decide⟩, ⟨_, rfl, rfl⟩, kw_4_44, kp_26, (Or.inl kw_4_42)⟩
theorem d_Desk_finishOrder_99 : decode prog_1_method_43_code 99 = .ok (.astore 6, 2) := by decide +kernel
theorem d_Desk_finishOrder_101 : decode prog_1_method_43_code 101 = .ok (.aload_n 1, 1) := by decide +kernel
theorem d_Desk_finishOrder_102 : decode prog_1_method_43_code 102 = .ok (.ifnull 44, 3) := by decide +kernel
theorem d_Desk_finishOrder_146 : decode prog_1_method_43_code 146 = .ok (.bipush (-4), 2) := by decide +kernel
theorem d_Desk_finishOrder_148 : decode prog_1_method_43_code 148 = .ok (.ireturn, 1) := by decide +kernel
theorem d_Desk_finishOrder_105 : decode prog_1_method_43_code 105 = .ok (.aload 6, 2) := by decide +kernel
theorem d_Desk_finishOrder_107 : decode prog_1_method_43_code 107 = .ok (.ifnull 39, 3) := by decide +kernel
theorem d_Desk_finishOrder_110 : decode prog_1_method_43_code 110 = .ok (.aload 6, 2) := by decide +kernel
theorem d_Desk_finishOrder_112 : decode prog_1_method_43_code 112 = .ok (.getfield 395, 3) := by decide +kernel
theorem kw_3_41 : (Jvm.Cond.fieldLink "CertificateDesk" (395 : Nat) "CertificateDesk$Order" "owner" "LCertificateDesk$Account;") ∈ cd_tbl := tb_3 (List.mem_of_getElem? (i := 41) (by decide +kernel)) (by decide)
theorem fl_Desk_395 {X : cd_E} : cd_FL X "CertificateDesk" 395 8 0 (.object "CertificateDesk$Account") := cd_FL.of rfl rfl (by decide) kw_3_41 (Or.inl rfl)
theorem d_Desk_finishOrder_115 : decode prog_1_method_43_code 115 = .ok (.aload_n 1, 1) := by decide +kernel
theorem d_Desk_finishOrder_116 : decode prog_1_method_43_code 116 = .ok (.if_acmp .ne 30, 3) := by decide +kernel
theorem d_Desk_finishOrder_119 : decode prog_1_method_43_code 119 = .ok (.aload_n 0, 1) := by decide +kernel
theorem d_Desk_finishOrder_120 : decode prog_1_method_43_code 120 = .ok (.aload 6, 2) := by decide +kernel
theorem d_Desk_finishOrder_122 : decode prog_1_method_43_code 122 = .ok (.invokevirtual 194, 3) := by decide +kernel
theorem kw_4_46 : (Jvm.Cond.methodLink "CertificateDesk" (194 : Nat) ({ cls := "CertificateDesk", name := "orderState", desc := "(LCertificateDesk$Order;)I" } : Jvm.MethodName)) ∈ cd_tbl := tb_4 (List.mem_of_getElem? (i := 46) (by decide +kernel)) (by decide)
theorem kw_4_49 : (Jvm.Cond.code ({ cls := "CertificateDesk", name := "orderState", desc := "(LCertificateDesk$Order;)I" } : Jvm.MethodName) prog_1_method_30_code (5 : Nat) (Option.some Jvm.ClassFile.FieldType.int)) ∈ cd_tbl := tb_4 (List.mem_of_getElem? (i := 49) (by decide +kernel)) (by decide)
theorem kw_4_48 : (Jvm.Cond.instanceMethod ({ cls := "CertificateDesk", name := "orderState", desc := "(LCertificateDesk$Order;)I" } : Jvm.MethodName)) ∈ cd_tbl := tb_4 (List.mem_of_getElem? (i := 48) (by decide +kernel)) (by decide)
theorem kp_27 : Cond.selects "CertificateDesk" ⟨"CertificateDesk", "orderState", "(LCertificateDesk$Order;)I"⟩ ⟨"CertificateDesk", "orderState", "(LCertificateDesk$Order;)I"⟩ ∈ cd_tbl := cd_sel (List.mem_of_getElem? (i := 27) (by decide +kernel)) (by decide)
theorem ca_Desk_finishOrder_194 {X : cd_E} : cd_CV X m_Desk_finishOrder m_Desk_orderState 194 1 0 := ⟨⟨by decide, kw_4_49, kw_1_1, ⟨by decide, by decide, by decide +kernel⟩, by decide, by decide⟩, ⟨_, rfl, rfl⟩, kw_4_48, kp_27, (Or.inl kw_4_46)⟩
theorem d_Desk_finishOrder_125 : decode prog_1_method_43_code 125 = .ok (.iconst 1, 1) := by decide +kernel
theorem d_Desk_finishOrder_126 : decode prog_1_method_43_code 126 = .ok (.if_icmp .ne 20, 3) := by decide +kernel
theorem d_Desk_finishOrder_129 : decode prog_1_method_43_code 129 = .ok (.iload 4, 2) := by decide +kernel
theorem d_Desk_finishOrder_131 : decode prog_1_method_43_code 131 = .ok (.iconst 3, 1) := by decide +kernel
theorem d_Desk_finishOrder_132 : decode prog_1_method_43_code 132 = .ok (.if_icmp .lt 14, 3) := by decide +kernel
theorem d_Desk_finishOrder_135 : decode prog_1_method_43_code 135 = .ok (.aload_n 0, 1) := by decide +kernel
theorem d_Desk_finishOrder_136 : decode prog_1_method_43_code 136 = .ok (.aload 6, 2) := by decide +kernel
theorem d_Desk_finishOrder_138 : decode prog_1_method_43_code 138 = .ok (.iload 5, 2) := by decide +kernel
theorem d_Desk_finishOrder_140 : decode prog_1_method_43_code 140 = .ok (.invokevirtual 396, 3) := by decide +kernel
theorem kw_4_50 : (Jvm.Cond.methodLink "CertificateDesk" (396 : Nat) ({ cls := "CertificateDesk", name := "areNamesOf", desc := "(LCertificateDesk$Order;I)Z" } : Jvm.MethodName)) ∈ cd_tbl := tb_4 (List.mem_of_getElem? (i := 50) (by decide +kernel)) (by decide)
theorem kw_4_53 : (Jvm.Cond.code ({ cls := "CertificateDesk", name := "areNamesOf", desc := "(LCertificateDesk$Order;I)Z" } : Jvm.MethodName) prog_1_method_44_code (4 : Nat) (Option.some Jvm.ClassFile.FieldType.boolean)) ∈ cd_tbl := tb_4 (List.mem_of_getElem? (i := 53) (by decide +kernel)) (by decide)
theorem kw_4_52 : (Jvm.Cond.instanceMethod ({ cls := "CertificateDesk", name := "areNamesOf", desc := "(LCertificateDesk$Order;I)Z" } : Jvm.MethodName)) ∈ cd_tbl := tb_4 (List.mem_of_getElem? (i := 52) (by decide +kernel)) (by decide)
theorem kp_28 : Cond.selects "CertificateDesk" ⟨"CertificateDesk", "areNamesOf", "(LCertificateDesk$Order;I)Z"⟩ ⟨"CertificateDesk", "areNamesOf", "(LCertificateDesk$Order;I)Z"⟩ ∈ cd_tbl := cd_sel (List.mem_of_getElem? (i := 28) (by decide +kernel)) (by decide)
theorem ca_Desk_finishOrder_396 {X : cd_E} : cd_CV X m_Desk_finishOrder m_Desk_areNamesOf 396 2 0 := ⟨⟨by decide, kw_4_53, kw_1_1, ⟨by decide, by decide, by decide +kernel⟩, by decide, by decide⟩, ⟨_, rfl, rfl⟩, kw_4_52, kp_28, (Or.inl kw_4_50)⟩
theorem d_Desk_finishOrder_143 : decode prog_1_method_43_code 143 = .ok (.ifCond .ne 6, 3) := by decide +kernel
theorem d_Desk_finishOrder_149 : decode prog_1_method_43_code 149 = .ok (.aload_n 0, 1) := by decide +kernel
theorem d_Desk_finishOrder_150 : decode prog_1_method_43_code 150 = .ok (.getfield 81, 3) := by decide +kernel
theorem d_Desk_finishOrder_153 : decode prog_1_method_43_code 153 = .ok (.invokevirtual 135, 3) := by decide +kernel
theorem ca_Desk_finishOrder_135 {X : cd_E} : cd_CV X m_Desk_finishOrder m_AL_size 135 0 12 := ⟨⟨by decide, kw_2_11, kw_1_9, ⟨by decide, by decide, by decide +kernel⟩, by decide, by decide⟩, ⟨_, rfl, rfl⟩, kw_2_9, kw_2_10, (Or.inl kw_2_8)⟩
theorem d_Desk_finishOrder_156 : decode prog_1_method_43_code 156 = .ok (.istore 7, 2) := by decide +kernel
theorem d_Desk_finishOrder_158 : decode prog_1_method_43_code 158 = .ok (.aload_n 0, 1) := by decide +kernel
theorem d_Desk_finishOrder_159 : decode prog_1_method_43_code 159 = .ok (.iconst 5, 1) := by decide +kernel
theorem d_Desk_finishOrder_160 : decode prog_1_method_43_code 160 = .ok (.invokevirtual 150, 3) := by decide +kernel
theorem ca_Desk_finishOrder_150 {X : cd_E} : cd_CV X m_Desk_finishOrder m_Desk_keep 150 1 0 := ⟨⟨by decide, kw_2_130, kw_1_1, ⟨by decide, by decide, by decide +kernel⟩, by decide, by decide⟩, ⟨_, rfl, rfl⟩, kw_2_129, kp_13, (Or.inl kw_2_127)⟩
theorem d_Desk_finishOrder_163 : decode prog_1_method_43_code 163 = .ok (.astore 8, 2) := by decide +kernel
theorem d_Desk_finishOrder_165 : decode prog_1_method_43_code 165 = .ok (.aload 8, 2) := by decide +kernel
theorem d_Desk_finishOrder_167 : decode prog_1_method_43_code 167 = .ok (.getfield 157, 3) := by decide +kernel
theorem d_Desk_finishOrder_170 : decode prog_1_method_43_code 170 = .ok (.ifCond .eq 44, 3) := by decide +kernel
theorem d_Desk_finishOrder_214 : decode prog_1_method_43_code 214 = .ok (.aload 8, 2) := by decide +kernel
theorem d_Desk_finishOrder_216 : decode prog_1_method_43_code 216 = .ok (.iload 7, 2) := by decide +kernel
theorem d_Desk_finishOrder_218 : decode prog_1_method_43_code 218 = .ok (.invokevirtual 334, 3) := by decide +kernel
theorem ca_Desk_finishOrder_334 {X : cd_E} : cd_CV X m_Desk_finishOrder m_Fat_answer 334 1 10 := ⟨⟨by decide, kw_2_232, kw_1_18, ⟨by decide, by decide, by decide +kernel⟩, by decide, by decide⟩, ⟨_, rfl, rfl⟩, kw_2_230, kw_2_231, (Or.inl kw_2_229)⟩
theorem d_Desk_finishOrder_221 : decode prog_1_method_43_code 221 = .ok (.ireturn, 1) := by decide +kernel
theorem d_Desk_finishOrder_173 : decode prog_1_method_43_code 173 = .ok (.aload_n 0, 1) := by decide +kernel
theorem d_Desk_finishOrder_174 : decode prog_1_method_43_code 174 = .ok (.getfield 81, 3) := by decide +kernel
theorem d_Desk_finishOrder_177 : decode prog_1_method_43_code 177 = .ok (.new 215, 3) := by decide +kernel
theorem nc_Desk_215 : cd_NC "CertificateDesk" 215 3 4 := cd_NC.of cl_3 rfl kw_4_58
theorem d_Desk_finishOrder_180 : decode prog_1_method_43_code 180 = .ok (.dup, 1) := by decide +kernel
theorem d_Desk_finishOrder_181 : decode prog_1_method_43_code 181 = .ok (.aload 6, 2) := by decide +kernel
theorem d_Desk_finishOrder_183 : decode prog_1_method_43_code 183 = .ok (.getfield 395, 3) := by decide +kernel
theorem d_Desk_finishOrder_186 : decode prog_1_method_43_code 186 = .ok (.aload_n 0, 1) := by decide +kernel
theorem d_Desk_finishOrder_187 : decode prog_1_method_43_code 187 = .ok (.getfield 84, 3) := by decide +kernel
theorem d_Desk_finishOrder_190 : decode prog_1_method_43_code 190 = .ok (.aload_n 0, 1) := by decide +kernel
theorem d_Desk_finishOrder_191 : decode prog_1_method_43_code 191 = .ok (.aload 6, 2) := by decide +kernel
theorem d_Desk_finishOrder_193 : decode prog_1_method_43_code 193 = .ok (.iload 7, 2) := by decide +kernel
theorem d_Desk_finishOrder_195 : decode prog_1_method_43_code 195 = .ok (.iload 4, 2) := by decide +kernel
theorem d_Desk_finishOrder_197 : decode prog_1_method_43_code 197 = .ok (.invokevirtual 400, 3) := by decide +kernel
theorem kw_4_60 : (Jvm.Cond.methodLink "CertificateDesk" (400 : Nat) ({ cls := "CertificateDesk", name := "certify", desc := "(LCertificateDesk$Order;II)LCertificateDesk$Octets;" } : Jvm.MethodName)) ∈ cd_tbl := tb_4 (List.mem_of_getElem? (i := 60) (by decide +kernel)) (by decide)
theorem kw_4_63 : (Jvm.Cond.code ({ cls := "CertificateDesk", name := "certify", desc := "(LCertificateDesk$Order;II)LCertificateDesk$Octets;" } : Jvm.MethodName) prog_1_method_46_code (9 : Nat) (Option.some (Jvm.ClassFile.FieldType.object "CertificateDesk$Octets"))) ∈ cd_tbl := tb_4 (List.mem_of_getElem? (i := 63) (by decide +kernel)) (by decide)
theorem kw_4_62 : (Jvm.Cond.instanceMethod ({ cls := "CertificateDesk", name := "certify", desc := "(LCertificateDesk$Order;II)LCertificateDesk$Octets;" } : Jvm.MethodName)) ∈ cd_tbl := tb_4 (List.mem_of_getElem? (i := 62) (by decide +kernel)) (by decide)
theorem kp_30 : Cond.selects "CertificateDesk" ⟨"CertificateDesk", "certify", "(LCertificateDesk$Order;II)LCertificateDesk$Octets;"⟩ ⟨"CertificateDesk", "certify", "(LCertificateDesk$Order;II)LCertificateDesk$Octets;"⟩ ∈ cd_tbl := cd_sel (List.mem_of_getElem? (i := 30) (by decide +kernel)) (by decide)
theorem ca_Desk_finishOrder_400 {X : cd_E} : cd_CV X m_Desk_finishOrder m_Desk_certify 400 3 0 := ⟨⟨by decide, kw_4_63, kw_1_1, ⟨by decide, by decide, by decide +kernel⟩, by decide, by decide⟩, ⟨_, rfl, rfl⟩, kw_4_62, kp_30, (Or.inl kw_4_60)⟩
theorem d_Desk_finishOrder_200 : decode prog_1_method_43_code 200 = .ok (.invokespecial 404, 3) := by decide +kernel
theorem kw_4_117 : (Jvm.Cond.methodLink "CertificateDesk" (404 : Nat) ({ cls := "CertificateDesk$Certificate", name := "<init>", desc := "(LCertificateDesk$Account;ILCertificateDesk$Octets;)V" } : Jvm.MethodName)) ∈ cd_tbl := tb_4 (List.mem_of_getElem? (i := 117) (by decide +kernel)) (by decide)
theorem kw_4_119 : (Jvm.Cond.code ({ cls := "CertificateDesk$Certificate", name := "<init>", desc := "(LCertificateDesk$Account;ILCertificateDesk$Octets;)V" } : Jvm.MethodName) prog_4_method_1_code (4 : Nat) (Option.none : Option Jvm.ClassFile.FieldType)) ∈ cd_tbl := tb_4 (List.mem_of_getElem? (i := 119) (by decide +kernel)) (by decide)
theorem kw_4_118 : (Jvm.Cond.instanceMethod ({ cls := "CertificateDesk$Certificate", name := "<init>", desc := "(LCertificateDesk$Account;ILCertificateDesk$Octets;)V" } : Jvm.MethodName)) ∈ cd_tbl := tb_4 (List.mem_of_getElem? (i := 118) (by decide +kernel)) (by decide)
theorem ca_Desk_finishOrder_404 {X : cd_E} : cd_CI X m_Desk_finishOrder m_Cer_init 404 3 := ⟨⟨by decide, kw_4_119, kw_1_27, ⟨by decide, by decide, by decide +kernel⟩, by decide, by decide⟩, rfl, rfl, kw_4_118, (Or.inl kw_4_117)⟩
theorem d_Desk_finishOrder_203 : decode prog_1_method_43_code 203 = .ok (.invokevirtual 330, 3) := by decide +kernel
theorem ca_Desk_finishOrder_330 {X : cd_E} : cd_CV X m_Desk_finishOrder m_AL_add_LObjectZ 330 1 12 := ⟨⟨by decide, kw_2_170, kw_1_9, ⟨by decide, by decide, by decide +kernel⟩, by decide, by decide⟩, ⟨_, rfl, rfl⟩, kw_2_168, kw_2_169, (Or.inl kw_2_167)⟩
theorem d_Desk_finishOrder_206 : decode prog_1_method_43_code 206 = .ok (.pop, 1) := by decide +kernel
theorem d_Desk_finishOrder_207 : decode prog_1_method_43_code 207 = .ok (.aload 6, 2) := by decide +kernel
theorem d_Desk_finishOrder_209 : decode prog_1_method_43_code 209 = .ok (.iload 7, 2) := by decide +kernel
theorem d_Desk_finishOrder_211 : decode prog_1_method_43_code 211 = .ok (.putfield 207, 3) := by decide +kernel
theorem fp_Desk_finishOrder_207 {X : cd_E} : cd_FP X m_Desk_finishOrder 207 8 3 .int := cd_FP.of cl_8 rfl rfl (by decide) kw_3_47 (Or.inl rfl) (Or.inl rfl)
theorem g_Desk_finishOrder {X : cd_E} {kc ks : Nat} {h : cd_H} {Q : Option Value → cd_H → Prop} {p1 : Option Nat} (F : cc_ok h) (H : cd_W X m_Not_field 0 0 0 [some (.ref 71), some (.int 0), some (.ref 7), none, none, none, none] [] h (fun r1 h2 => ∃ x3 : Int32, r1 = some (.int x3) ∧ ((cc_ok h2) ∧ (cd_W X m_Not_number 0 0 0 [some (.ref 71), some (.int x3), none, none] [] h2 (fun r5 h6 => ∃ x7 : Int32, r5 = some (.int x7) ∧ ((cc_ok h6) ∧ (cd_W X m_Not_field 0 0 0 [some (.ref 71), some (.int 0), some (.ref 13), none, none, none, none] [] h6 (fun r9 h10 => ∃ x11 : Int32, r9 = some (.int x11) ∧ ((cc_ok h10) ∧ (cd_W X m_Not_field 0 0 0 [some (.ref 71), some (.int x11), some (.ref 14), none, none, none, none] [] h10 (fun r13 h14 => ∃ x15 : Int32, r13 = some (.int x15) ∧ ((cc_ok h14) ∧ (cd_W X m_Not_number 0 0 0 [some (.ref 71), some (.int x15), none, none] [] h14 (fun r17 h18 => ∃ x19 : Int32, r17 = some (.int x19) ∧ ((cc_ok h18) ∧ (cd_W X m_Not_field 0 0 0 [some (.ref 71), some (.int x11), some (.ref 8), none, none, none, none] [] h18 (fun r21 h22 => ∃ x23 : Int32, r21 = some (.int x23) ∧ ((cc_ok h22) ∧ (cd_W X m_Not_strings 0 0 0 [some (.ref 71), some (.int x23), some (.ref 73), none, none, none] [] h22 (fun r25 h26 => ∃ x27 : Int32, r25 = some (.int x27) ∧ ((cc_ok h26) ∧ ((((x7 = (-1)) → (Q (some (.int (-1))) h26)) ∧ ((¬ x7 = (-1)) → ((((x19 = (-1)) → (Q (some (.int (-1))) h26)) ∧ ((¬ x19 = (-1)) → ((((¬ x27 = (-1)) → (cd_W X m_Desk_orderAt 0 0 0 [some (.ref 64), some (.int x7)] [] h26 (fun r32 h33 => ∃ o34 : Option Nat, r32 = some (va_rf o34) ∧ ((cc_ok h33) ∧ ((((p1 = none) → (Q (some (.int (-4))) h33)) ∧ (∀ b37 : Nat, p1 = some b37 → ((((o34 = none) → (Q (some (.int (-4))) h33)) ∧ (∀ b39 : Nat, o34 = some b39 → ((cd_k h33 b39 = some (.inl 8)) ∧ ((cd_apart (cd_r h33 b39 0) (some b37)) ∧ ((((¬ (cd_r h33 b39 0) = (some b37)) → (Q (some (.int (-4))) h33)) ∧ (((cd_r h33 b39 0) = (some b37)) → (cd_W X m_Desk_orderState 0 0 0 [some (.ref 64), some (.ref b39), none, none, none] [] h33 (fun r43 h44 => ∃ x45 : Int32, r43 = some (.int x45) ∧ ((cc_ok h44) ∧ ((((¬ x45 = 1) → (Q (some (.int (-4))) h44)) ∧ ((x45 = 1) → ((((x19 < 3) → (Q (some (.int (-4))) h44)) ∧ ((¬ x19 < 3) → (cd_W X m_Desk_areNamesOf 0 0 0 [some (.ref 64), some (.ref b39), some (.int x27), none] [] h44 (fun r49 h50 => ∃ x51 : Int32, r49 = some (.int x51) ∧ ((cc_ok h50) ∧ ((((¬ x51 = 0) → (cd_W X m_AL_size 0 0 0 [some (.ref 81)] [] h50 (fun r54 h55 => ∃ x56 : Int32, r54 = some (.int x56) ∧ ((cc_ok h55) ∧ (cd_W X m_Desk_keep 0 0 0 [some (.ref 64), some (.int 5), none] [] h55 (fun r58 h59 => ∃ b60 : Nat, r58 = some (.ref b60) ∧ ((cc_ok h59) ∧ ((cd_k h59 b60 = some (.inl 10)) ∧ (((((cd_i h59 b60 0) = 0) → (cd_W X m_Fat_answer 0 0 0 [some (.ref b60), some (.int x56)] [] h59 (fun r64 h65 => ∃ x66 : Int32, r64 = some (.int x66) ∧ ((cc_ok h65) ∧ (Q (some (.int x66)) h65))))) ∧ ((¬ (cd_i h59 b60 0) = 0) → ((cd_k (cd_new h59 (.inl 3)) b39 = some (.inl 8)) ∧ (cd_W X m_Desk_certify 2 82 0 [some (.ref 64), some (.ref b39), some (.int x56), some (.int x19), none, none, none, none, none] [] (cd_new h59 (.inl 3)) (fun r69 h70 => ∃ b71 : Nat, r69 = some (.ref b71) ∧ ((cc_ok h70) ∧ ((∃ b73 : Nat, (cd_r (cd_new h59 (.inl 3)) b39 0) = some b73 ∧ (cd_W X m_Cer_init 0 0 0 [some (.ref (cd_n h59)), some (.ref b73), some (.int (cd_i (cd_new h59 (.inl 3)) 64 12)), some (.ref b71)] [] h70 (fun r75 h76 => (r75 = none) ∧ ((cc_ok h76) ∧ (cd_W X m_AL_add_LObjectZ 1 40 0 [some (.ref 81), some (.ref (cd_n h59))] [] h76 (fun r78 h79 => ∃ x80 : Int32, r78 = some (.int x80) ∧ ((cc_ok h79) ∧ ((cd_k h79 b39 = some (.inl 8)) ∧ ((64 ≤ b39) ∧ ((cd_k h79 b60 = some (.inl 10)) ∧ (cd_W X m_Fat_answer 0 0 0 [some (.ref b60), some (.int x56)] [] (cd_si h79 b39 3 x56) (fun r85 h86 => ∃ x87 : Int32, r85 = some (.int x87) ∧ ((cc_ok h86) ∧ (Q (some (.int x87)) h86)))))))))))))))))))))))))))))) ∧ ((x51 = 0) → (Q (some (.int (-4))) h50))))))))))))))))))))))))))))))) ∧ ((x27 = (-1)) → (Q (some (.int (-1))) h26))))))))))))))))))))))))))))))) : cd_W X m_Desk_finishOrder (kc + 4) (ks + 126) 0 [some (.ref 64), some (va_rf p1), none, none, none, none, none, none, none] [] h Q := by
  refine cd_aload_n (i := 0) (v := .ref 64) d_Desk_finishOrder_0 rfl rfl (cd_isr_ref _) ?_
  refine cd_get (v := .ref 71) d_Desk_finishOrder_1 fl_Desk_37 (cc_k64 F) (congrArg va_rf (cc_r64_3 F)) ?_
  refine cd_aload_n (i := 0) (v := .ref 64) d_Desk_finishOrder_4 rfl rfl (cd_isr_ref _) ?_
  refine cd_get (v := .ref 71) d_Desk_finishOrder_5 fl_Desk_37 (cc_k64 F) (congrArg va_rf (cc_r64_3 F)) ?_
  refine cd_iconst (v := 0) d_Desk_finishOrder_8 (by decide) ?_
  refine cd_ldcS d_Desk_finishOrder_9 (tx := "order") (i := 7) (List.mem_of_getElem? (i := 2) rfl) ?_
  refine cd_callV (kc := (kc + 4)) (ks := (ks + 126)) (kc' := 0) (ks' := 0) (As := [.int 0, .ref 7]) (S := [.ref 71]) d_Desk_finishOrder_12 ca_Desk_finishOrder_288 (cc_k71 F) rfl (Nat.le_of_ble_eq_true rfl) (Nat.le_of_ble_eq_true rfl) ?_
  refine cd_W.mono (fun r1 h2 H => ?_) H
  obtain ⟨x3, rfl, H⟩ := H
  obtain ⟨F4, H⟩ := H
  show cd_W X m_Desk_finishOrder (kc + 4) (ks + 126) 15 [some (.ref 64), some (va_rf p1), none, none, none, none, none, none, none] [.int x3, .ref 71] h2 Q
  refine cd_callV (kc := (kc + 4)) (ks := (ks + 126)) (kc' := 0) (ks' := 0) (As := [.int x3]) (S := []) d_Desk_finishOrder_15 ca_Desk_finishOrder_388 (cc_k71 F4) rfl (Nat.le_of_ble_eq_true rfl) (Nat.le_of_ble_eq_true rfl) ?_
  refine cd_W.mono (fun r5 h6 H => ?_) H
  obtain ⟨x7, rfl, H⟩ := H
  obtain ⟨F8, H⟩ := H
  show cd_W X m_Desk_finishOrder (kc + 4) (ks + 126) 18 [some (.ref 64), some (va_rf p1), none, none, none, none, none, none, none] [.int x7] h6 Q
  refine cd_istore_n (i := 2) d_Desk_finishOrder_18 rfl (by decide) ?_
  show cd_W X m_Desk_finishOrder (kc + 4) (ks + 126) 19 [some (.ref 64), cd_kl (some (va_rf p1)), some (.int x7), none, none, none, none, none, none] [] h6 Q
  rw [cd_kl_rf]
  refine cd_aload_n (i := 0) (v := .ref 64) d_Desk_finishOrder_19 rfl rfl (cd_isr_ref _) ?_
  refine cd_get (v := .ref 71) d_Desk_finishOrder_20 fl_Desk_37 (cc_k64 F8) (congrArg va_rf (cc_r64_3 F8)) ?_
  refine cd_iconst (v := 0) d_Desk_finishOrder_23 (by decide) ?_
  refine cd_ldcS d_Desk_finishOrder_24 (tx := "csr") (i := 13) (List.mem_of_getElem? (i := 8) rfl) ?_
  refine cd_callV (kc := (kc + 4)) (ks := (ks + 126)) (kc' := 0) (ks' := 0) (As := [.int 0, .ref 13]) (S := []) d_Desk_finishOrder_27 ca_Desk_finishOrder_288 (cc_k71 F8) rfl (Nat.le_of_ble_eq_true rfl) (Nat.le_of_ble_eq_true rfl) ?_
  refine cd_W.mono (fun r9 h10 H => ?_) H
  obtain ⟨x11, rfl, H⟩ := H
  obtain ⟨F12, H⟩ := H
  show cd_W X m_Desk_finishOrder (kc + 4) (ks + 126) 30 [some (.ref 64), some (va_rf p1), some (.int x7), none, none, none, none, none, none] [.int x11] h10 Q
  refine cd_istore_n (i := 3) d_Desk_finishOrder_30 rfl (by decide) ?_
  show cd_W X m_Desk_finishOrder (kc + 4) (ks + 126) 31 [some (.ref 64), some (va_rf p1), some (.int x7), some (.int x11), none, none, none, none, none] [] h10 Q
  refine cd_aload_n (i := 0) (v := .ref 64) d_Desk_finishOrder_31 rfl rfl (cd_isr_ref _) ?_
  refine cd_get (v := .ref 71) d_Desk_finishOrder_32 fl_Desk_37 (cc_k64 F12) (congrArg va_rf (cc_r64_3 F12)) ?_
  refine cd_aload_n (i := 0) (v := .ref 64) d_Desk_finishOrder_35 rfl rfl (cd_isr_ref _) ?_
  refine cd_get (v := .ref 71) d_Desk_finishOrder_36 fl_Desk_37 (cc_k64 F12) (congrArg va_rf (cc_r64_3 F12)) ?_
  refine cd_iload_n (i := 3) d_Desk_finishOrder_39 rfl rfl ?_
  refine cd_ldcS d_Desk_finishOrder_40 (tx := "key") (i := 14) (List.mem_of_getElem? (i := 9) rfl) ?_
  refine cd_callV (kc := (kc + 4)) (ks := (ks + 126)) (kc' := 0) (ks' := 0) (As := [.int x11, .ref 14]) (S := [.ref 71]) d_Desk_finishOrder_43 ca_Desk_finishOrder_288 (cc_k71 F12) rfl (Nat.le_of_ble_eq_true rfl) (Nat.le_of_ble_eq_true rfl) ?_
  refine cd_W.mono (fun r13 h14 H => ?_) H
  obtain ⟨x15, rfl, H⟩ := H
  obtain ⟨F16, H⟩ := H
  show cd_W X m_Desk_finishOrder (kc + 4) (ks + 126) 46 [some (.ref 64), some (va_rf p1), some (.int x7), some (.int x11), none, none, none, none, none] [.int x15, .ref 71] h14 Q
  refine cd_callV (kc := (kc + 4)) (ks := (ks + 126)) (kc' := 0) (ks' := 0) (As := [.int x15]) (S := []) d_Desk_finishOrder_46 ca_Desk_finishOrder_388 (cc_k71 F16) rfl (Nat.le_of_ble_eq_true rfl) (Nat.le_of_ble_eq_true rfl) ?_
  refine cd_W.mono (fun r17 h18 H => ?_) H
  obtain ⟨x19, rfl, H⟩ := H
  obtain ⟨F20, H⟩ := H
  show cd_W X m_Desk_finishOrder (kc + 4) (ks + 126) 49 [some (.ref 64), some (va_rf p1), some (.int x7), some (.int x11), none, none, none, none, none] [.int x19] h18 Q
  refine cd_istore (i := 4) d_Desk_finishOrder_49 (by decide) ?_
  show cd_W X m_Desk_finishOrder (kc + 4) (ks + 126) 51 [some (.ref 64), some (va_rf p1), some (.int x7), some (.int x11), some (.int x19), none, none, none, none] [] h18 Q
  refine cd_aload_n (i := 0) (v := .ref 64) d_Desk_finishOrder_51 rfl rfl (cd_isr_ref _) ?_
  refine cd_get (v := .ref 71) d_Desk_finishOrder_52 fl_Desk_37 (cc_k64 F20) (congrArg va_rf (cc_r64_3 F20)) ?_
  refine cd_aload_n (i := 0) (v := .ref 64) d_Desk_finishOrder_55 rfl rfl (cd_isr_ref _) ?_
  refine cd_get (v := .ref 71) d_Desk_finishOrder_56 fl_Desk_37 (cc_k64 F20) (congrArg va_rf (cc_r64_3 F20)) ?_
  refine cd_iload_n (i := 3) d_Desk_finishOrder_59 rfl rfl ?_
  refine cd_ldcS d_Desk_finishOrder_60 (tx := "names") (i := 8) (List.mem_of_getElem? (i := 3) rfl) ?_
  refine cd_callV (kc := (kc + 4)) (ks := (ks + 126)) (kc' := 0) (ks' := 0) (As := [.int x11, .ref 8]) (S := [.ref 71]) d_Desk_finishOrder_63 ca_Desk_finishOrder_288 (cc_k71 F20) rfl (Nat.le_of_ble_eq_true rfl) (Nat.le_of_ble_eq_true rfl) ?_
  refine cd_W.mono (fun r21 h22 H => ?_) H
  obtain ⟨x23, rfl, H⟩ := H
  obtain ⟨F24, H⟩ := H
  show cd_W X m_Desk_finishOrder (kc + 4) (ks + 126) 66 [some (.ref 64), some (va_rf p1), some (.int x7), some (.int x11), some (.int x19), none, none, none, none] [.int x23, .ref 71] h22 Q
  refine cd_aload_n (i := 0) (v := .ref 64) d_Desk_finishOrder_66 rfl rfl (cd_isr_ref _) ?_
  refine cd_get (v := .ref 73) d_Desk_finishOrder_67 fl_Desk_41 (cc_k64 F24) (congrArg va_rf (cc_r64_4 F24)) ?_
  refine cd_callV (kc := (kc + 4)) (ks := (ks + 126)) (kc' := 0) (ks' := 0) (As := [.int x23, .ref 73]) (S := []) d_Desk_finishOrder_70 ca_Desk_finishOrder_339 (cc_k71 F24) rfl (Nat.le_of_ble_eq_true rfl) (Nat.le_of_ble_eq_true rfl) ?_
  refine cd_W.mono (fun r25 h26 H => ?_) H
  obtain ⟨x27, rfl, H⟩ := H
  obtain ⟨F28, H⟩ := H
  show cd_W X m_Desk_finishOrder (kc + 4) (ks + 126) 73 [some (.ref 64), some (va_rf p1), some (.int x7), some (.int x11), some (.int x19), none, none, none, none] [.int x27] h26 Q
  refine cd_istore (i := 5) d_Desk_finishOrder_73 (by decide) ?_
  show cd_W X m_Desk_finishOrder (kc + 4) (ks + 126) 75 [some (.ref 64), some (va_rf p1), some (.int x7), some (.int x11), some (.int x19), some (.int x27), none, none, none] [] h26 Q
  refine cd_iload_n (i := 2) d_Desk_finishOrder_75 rfl rfl ?_
  refine cd_iconst (v := (-1)) d_Desk_finishOrder_76 (by decide) ?_
  refine cd_icmp_eq (tgt := 92) d_Desk_finishOrder_77 (by decide) (fun t29 => ?_) (fun t29 => ?_)
  · replace H := H.1 t29
    refine cd_iconst (v := (-1)) d_Desk_finishOrder_92 (by decide) ?_
    exact cd_iret d_Desk_finishOrder_93 rfl rfl H
  · replace H := H.2 t29
    refine cd_iload (i := 4) d_Desk_finishOrder_80 rfl ?_
    refine cd_iconst (v := (-1)) d_Desk_finishOrder_82 (by decide) ?_
    refine cd_icmp_eq (tgt := 92) d_Desk_finishOrder_83 (by decide) (fun t30 => ?_) (fun t30 => ?_)
    · replace H := H.1 t30
      refine cd_iconst (v := (-1)) d_Desk_finishOrder_92 (by decide) ?_
      exact cd_iret d_Desk_finishOrder_93 rfl rfl H
    · replace H := H.2 t30
      refine cd_iload (i := 5) d_Desk_finishOrder_86 rfl ?_
      refine cd_iconst (v := (-1)) d_Desk_finishOrder_88 (by decide) ?_
      refine cd_icmp_ne (tgt := 94) d_Desk_finishOrder_89 (by decide) (fun t31 => ?_) (fun t31 => ?_)
      · replace H := H.1 t31
        refine cd_aload_n (i := 0) (v := .ref 64) d_Desk_finishOrder_94 rfl rfl (cd_isr_ref _) ?_
        refine cd_iload_n (i := 2) d_Desk_finishOrder_95 rfl rfl ?_
        refine cd_callV (kc := (kc + 4)) (ks := (ks + 126)) (kc' := 0) (ks' := 0) (As := [.int x7]) (S := []) d_Desk_finishOrder_96 ca_Desk_finishOrder_190 (cc_k64 F28) rfl (Nat.le_of_ble_eq_true rfl) (Nat.le_of_ble_eq_true rfl) ?_
        refine cd_W.mono (fun r32 h33 H => ?_) H
        obtain ⟨o34, rfl, H⟩ := H
        obtain ⟨F35, H⟩ := H
        show cd_W X m_Desk_finishOrder (kc + 4) (ks + 126) 99 [some (.ref 64), some (va_rf p1), some (.int x7), some (.int x11), some (.int x19), some (.int x27), none, none, none] [va_rf o34] h33 Q
        refine cd_astore (i := 6) d_Desk_finishOrder_99 (by decide) (cd_isr_rf _) ?_
        show cd_W X m_Desk_finishOrder (kc + 4) (ks + 126) 101 [some (.ref 64), some (va_rf p1), some (.int x7), some (.int x11), some (.int x19), some (.int x27), some (va_rf o34), none, none] [] h33 Q
        refine cd_aload_n (i := 1) (v := va_rf p1) d_Desk_finishOrder_101 rfl rfl (cd_isr_rf _) ?_
        refine cd_ifnull (r := p1) (tgt := 146) d_Desk_finishOrder_102 (by decide) (fun t36 => ?_) (fun b37 t36 => ?_)
        · replace H := H.1 t36
          rw [cd_rfn t36]
          refine cd_bipush (v := (-4)) d_Desk_finishOrder_146 (by decide) ?_
          exact cd_iret d_Desk_finishOrder_148 rfl rfl H
        · replace H := H.2 b37 t36
          rw [cd_rfs t36]
          refine cd_aload (i := 6) (v := va_rf o34) d_Desk_finishOrder_105 rfl (cd_isr_rf _) ?_
          refine cd_ifnull (r := o34) (tgt := 146) d_Desk_finishOrder_107 (by decide) (fun t38 => ?_) (fun b39 t38 => ?_)
          · replace H := H.1 t38
            rw [cd_rfn t38]
            refine cd_bipush (v := (-4)) d_Desk_finishOrder_146 (by decide) ?_
            exact cd_iret d_Desk_finishOrder_148 rfl rfl H
          · replace H := H.2 b39 t38
            rw [cd_rfs t38]
            refine cd_aload (i := 6) (v := .ref b39) d_Desk_finishOrder_110 rfl (cd_isr_ref _) ?_
            obtain ⟨c40, H⟩ := H
            refine cd_get (v := va_rf (cd_r h33 b39 0)) d_Desk_finishOrder_112 fl_Desk_395 c40 rfl ?_
            refine cd_aload_n (i := 1) (v := .ref b37) d_Desk_finishOrder_115 rfl rfl (cd_isr_ref _) ?_
            obtain ⟨c41, H⟩ := H
            refine cd_acmp_ne (rx := (cd_r h33 b39 0)) (ry := (some b37)) (tgt := 146) d_Desk_finishOrder_116 (by decide) c41 (fun t42 => ?_) (fun t42 => ?_)
            · replace H := H.1 t42
              refine cd_bipush (v := (-4)) d_Desk_finishOrder_146 (by decide) ?_
              exact cd_iret d_Desk_finishOrder_148 rfl rfl H
            · replace H := H.2 t42
              refine cd_aload_n (i := 0) (v := .ref 64) d_Desk_finishOrder_119 rfl rfl (cd_isr_ref _) ?_
              refine cd_aload (i := 6) (v := .ref b39) d_Desk_finishOrder_120 rfl (cd_isr_ref _) ?_
              refine cd_callV (kc := (kc + 4)) (ks := (ks + 126)) (kc' := 0) (ks' := 0) (As := [.ref b39]) (S := []) d_Desk_finishOrder_122 ca_Desk_finishOrder_194 (cc_k64 F35) rfl (Nat.le_of_ble_eq_true rfl) (Nat.le_of_ble_eq_true rfl) ?_
              refine cd_W.mono (fun r43 h44 H => ?_) H
              obtain ⟨x45, rfl, H⟩ := H
              obtain ⟨F46, H⟩ := H
              show cd_W X m_Desk_finishOrder (kc + 4) (ks + 126) 125 [some (.ref 64), some (.ref b37), some (.int x7), some (.int x11), some (.int x19), some (.int x27), some (.ref b39), none, none] [.int x45] h44 Q
              refine cd_iconst (v := 1) d_Desk_finishOrder_125 (by decide) ?_
              refine cd_icmp_ne (tgt := 146) d_Desk_finishOrder_126 (by decide) (fun t47 => ?_) (fun t47 => ?_)
              · replace H := H.1 t47
                refine cd_bipush (v := (-4)) d_Desk_finishOrder_146 (by decide) ?_
                exact cd_iret d_Desk_finishOrder_148 rfl rfl H
              · replace H := H.2 t47
                refine cd_iload (i := 4) d_Desk_finishOrder_129 rfl ?_
                refine cd_iconst (v := 3) d_Desk_finishOrder_131 (by decide) ?_
                refine cd_icmp_lt (tgt := 146) d_Desk_finishOrder_132 (by decide) (fun t48 => ?_) (fun t48 => ?_)
                · replace H := H.1 t48
                  refine cd_bipush (v := (-4)) d_Desk_finishOrder_146 (by decide) ?_
                  exact cd_iret d_Desk_finishOrder_148 rfl rfl H
                · replace H := H.2 t48
                  refine cd_aload_n (i := 0) (v := .ref 64) d_Desk_finishOrder_135 rfl rfl (cd_isr_ref _) ?_
                  refine cd_aload (i := 6) (v := .ref b39) d_Desk_finishOrder_136 rfl (cd_isr_ref _) ?_
                  refine cd_iload (i := 5) d_Desk_finishOrder_138 rfl ?_
                  refine cd_callV (kc := (kc + 4)) (ks := (ks + 126)) (kc' := 0) (ks' := 0) (As := [.ref b39, .int x27]) (S := []) d_Desk_finishOrder_140 ca_Desk_finishOrder_396 (cc_k64 F46) rfl (Nat.le_of_ble_eq_true rfl) (Nat.le_of_ble_eq_true rfl) ?_
                  refine cd_W.mono (fun r49 h50 H => ?_) H
                  obtain ⟨x51, rfl, H⟩ := H
                  obtain ⟨F52, H⟩ := H
                  show cd_W X m_Desk_finishOrder (kc + 4) (ks + 126) 143 [some (.ref 64), some (.ref b37), some (.int x7), some (.int x11), some (.int x19), some (.int x27), some (.ref b39), none, none] [.int x51] h50 Q
                  refine cd_if_ne (tgt := 149) d_Desk_finishOrder_143 (by decide) (fun t53 => ?_) (fun t53 => ?_)
                  · replace H := H.1 t53
                    refine cd_aload_n (i := 0) (v := .ref 64) d_Desk_finishOrder_149 rfl rfl (cd_isr_ref _) ?_
                    refine cd_get (v := .ref 81) d_Desk_finishOrder_150 fl_Desk_81 (cc_k64 F52) (congrArg va_rf (cc_r64_11 F52)) ?_
                    refine cd_callV (kc := (kc + 4)) (ks := (ks + 126)) (kc' := 0) (ks' := 0) (As := []) (S := []) d_Desk_finishOrder_153 ca_Desk_finishOrder_135 (cc_k81 F52) rfl (Nat.le_of_ble_eq_true rfl) (Nat.le_of_ble_eq_true rfl) ?_
                    refine cd_W.mono (fun r54 h55 H => ?_) H
                    obtain ⟨x56, rfl, H⟩ := H
                    obtain ⟨F57, H⟩ := H
                    show cd_W X m_Desk_finishOrder (kc + 4) (ks + 126) 156 [some (.ref 64), some (.ref b37), some (.int x7), some (.int x11), some (.int x19), some (.int x27), some (.ref b39), none, none] [.int x56] h55 Q
                    refine cd_istore (i := 7) d_Desk_finishOrder_156 (by decide) ?_
                    show cd_W X m_Desk_finishOrder (kc + 4) (ks + 126) 158 [some (.ref 64), some (.ref b37), some (.int x7), some (.int x11), some (.int x19), some (.int x27), some (.ref b39), some (.int x56), none] [] h55 Q
                    refine cd_aload_n (i := 0) (v := .ref 64) d_Desk_finishOrder_158 rfl rfl (cd_isr_ref _) ?_
                    refine cd_iconst (v := 5) d_Desk_finishOrder_159 (by decide) ?_
                    refine cd_callV (kc := (kc + 4)) (ks := (ks + 126)) (kc' := 0) (ks' := 0) (As := [.int 5]) (S := []) d_Desk_finishOrder_160 ca_Desk_finishOrder_150 (cc_k64 F57) rfl (Nat.le_of_ble_eq_true rfl) (Nat.le_of_ble_eq_true rfl) ?_
                    refine cd_W.mono (fun r58 h59 H => ?_) H
                    obtain ⟨b60, rfl, H⟩ := H
                    obtain ⟨F61, H⟩ := H
                    show cd_W X m_Desk_finishOrder (kc + 4) (ks + 126) 163 [some (.ref 64), some (.ref b37), some (.int x7), some (.int x11), some (.int x19), some (.int x27), some (.ref b39), some (.int x56), none] [.ref b60] h59 Q
                    refine cd_astore (i := 8) d_Desk_finishOrder_163 (by decide) (cd_isr_ref _) ?_
                    show cd_W X m_Desk_finishOrder (kc + 4) (ks + 126) 165 [some (.ref 64), some (.ref b37), some (.int x7), some (.int x11), some (.int x19), some (.int x27), some (.ref b39), some (.int x56), some (.ref b60)] [] h59 Q
                    refine cd_aload (i := 8) (v := .ref b60) d_Desk_finishOrder_165 rfl (cd_isr_ref _) ?_
                    obtain ⟨c62, H⟩ := H
                    refine cd_get (v := .int (cd_i h59 b60 0)) d_Desk_finishOrder_167 fl_Desk_157 c62 rfl ?_
                    refine cd_if_eq (tgt := 214) d_Desk_finishOrder_170 (by decide) (fun t63 => ?_) (fun t63 => ?_)
                    · replace H := H.1 t63
                      refine cd_aload (i := 8) (v := .ref b60) d_Desk_finishOrder_214 rfl (cd_isr_ref _) ?_
                      refine cd_iload (i := 7) d_Desk_finishOrder_216 rfl ?_
                      refine cd_callV (kc := (kc + 4)) (ks := (ks + 126)) (kc' := 0) (ks' := 0) (As := [.int x56]) (S := []) d_Desk_finishOrder_218 ca_Desk_finishOrder_334 c62 rfl (Nat.le_of_ble_eq_true rfl) (Nat.le_of_ble_eq_true rfl) ?_
                      refine cd_W.mono (fun r64 h65 H => ?_) H
                      obtain ⟨x66, rfl, H⟩ := H
                      obtain ⟨F67, H⟩ := H
                      show cd_W X m_Desk_finishOrder (kc + 4) (ks + 126) 221 [some (.ref 64), some (.ref b37), some (.int x7), some (.int x11), some (.int x19), some (.int x27), some (.ref b39), some (.int x56), some (.ref b60)] [.int x66] h65 Q
                      exact cd_iret d_Desk_finishOrder_221 rfl rfl H
                    · replace H := H.2 t63
                      refine cd_aload_n (i := 0) (v := .ref 64) d_Desk_finishOrder_173 rfl rfl (cd_isr_ref _) ?_
                      refine cd_get (v := .ref 81) d_Desk_finishOrder_174 fl_Desk_81 (cc_k64 F61) (congrArg va_rf (cc_r64_11 F61)) ?_
                      refine cd_newo (kc := (kc + 3)) (ks := (ks + 122)) d_Desk_finishOrder_177 nc_Desk_215 ?_
                      refine cd_dup d_Desk_finishOrder_180 rfl ?_
                      refine cd_aload (i := 6) (v := .ref b39) d_Desk_finishOrder_181 rfl (cd_isr_ref _) ?_
                      obtain ⟨c68, H⟩ := H
                      refine cd_get (v := va_rf (cd_r (cd_new h59 (.inl 3)) b39 0)) d_Desk_finishOrder_183 fl_Desk_395 c68 rfl ?_
                      refine cd_aload_n (i := 0) (v := .ref 64) d_Desk_finishOrder_186 rfl rfl (cd_isr_ref _) ?_
                      refine cd_get (v := .int (cd_i (cd_new h59 (.inl 3)) 64 12)) d_Desk_finishOrder_187 fl_Desk_84 (cc_k64 F61) rfl ?_
                      refine cd_aload_n (i := 0) (v := .ref 64) d_Desk_finishOrder_190 rfl rfl (cd_isr_ref _) ?_
                      refine cd_aload (i := 6) (v := .ref b39) d_Desk_finishOrder_191 rfl (cd_isr_ref _) ?_
                      refine cd_iload (i := 7) d_Desk_finishOrder_193 rfl ?_
                      refine cd_iload (i := 4) d_Desk_finishOrder_195 rfl ?_
                      refine cd_callV (kc := (kc + 1)) (ks := (ks + 40)) (kc' := 2) (ks' := 82) (As := [.ref b39, .int x56, .int x19]) (S := [.int (cd_i (cd_new h59 (.inl 3)) 64 12), va_rf (cd_r (cd_new h59 (.inl 3)) b39 0), .ref (cd_n h59), .ref (cd_n h59), .ref 81]) d_Desk_finishOrder_197 ca_Desk_finishOrder_400 (cc_k64 F61) rfl (Nat.le_of_ble_eq_true rfl) (by simp [Value.category, cd_cat_rf]) ?_
                      refine cd_W.mono (fun r69 h70 H => ?_) H
                      obtain ⟨b71, rfl, H⟩ := H
                      obtain ⟨F72, H⟩ := H
                      show cd_W X m_Desk_finishOrder (kc + 1) (ks + 40) 200 [some (.ref 64), some (.ref b37), some (.int x7), some (.int x11), some (.int x19), some (.int x27), some (.ref b39), some (.int x56), some (.ref b60)] [.ref b71, .int (cd_i (cd_new h59 (.inl 3)) 64 12), va_rf (cd_r (cd_new h59 (.inl 3)) b39 0), .ref (cd_n h59), .ref (cd_n h59), .ref 81] h70 Q
                      obtain ⟨b73, e74, H⟩ := H
                      rw [cd_rfs e74]
                      refine cd_callI (kc := (kc + 1)) (ks := (ks + 40)) (kc' := 0) (ks' := 0) (As := [.ref b73, .int (cd_i (cd_new h59 (.inl 3)) 64 12), .ref b71]) (S := [.ref (cd_n h59), .ref 81]) d_Desk_finishOrder_200 ca_Desk_finishOrder_404 rfl (Nat.le_of_ble_eq_true rfl) (Nat.le_of_ble_eq_true rfl) ?_
                      refine cd_W.mono (fun r75 h76 H => ?_) H
                      obtain ⟨rfl, H⟩ := H
                      obtain ⟨F77, H⟩ := H
                      show cd_W X m_Desk_finishOrder (kc + 1) (ks + 40) 203 [some (.ref 64), some (.ref b37), some (.int x7), some (.int x11), some (.int x19), some (.int x27), some (.ref b39), some (.int x56), some (.ref b60)] [.ref (cd_n h59), .ref 81] h76 Q
                      refine cd_callV (kc := (kc + 0)) (ks := (ks + 0)) (kc' := 1) (ks' := 40) (As := [.ref (cd_n h59)]) (S := []) d_Desk_finishOrder_203 ca_Desk_finishOrder_330 (cc_k81 F77) rfl (Nat.le_of_ble_eq_true rfl) (Nat.le_of_ble_eq_true rfl) ?_
                      refine cd_W.mono (fun r78 h79 H => ?_) H
                      obtain ⟨x80, rfl, H⟩ := H
                      obtain ⟨F81, H⟩ := H
                      show cd_W X m_Desk_finishOrder (kc + 0) (ks + 0) 206 [some (.ref 64), some (.ref b37), some (.int x7), some (.int x11), some (.int x19), some (.int x27), some (.ref b39), some (.int x56), some (.ref b60)] [.int x80] h79 Q
                      refine cd_pop d_Desk_finishOrder_206 rfl ?_
                      refine cd_aload (i := 6) (v := .ref b39) d_Desk_finishOrder_207 rfl (cd_isr_ref _) ?_
                      refine cd_iload (i := 7) d_Desk_finishOrder_209 rfl ?_
                      obtain ⟨c82, H⟩ := H
                      obtain ⟨c83, H⟩ := H
                      refine cd_putI d_Desk_finishOrder_211 fp_Desk_finishOrder_207 (fun _ _ _ => rfl) c82 c83 rfl rfl ?_
                      refine cd_aload (i := 8) (v := .ref b60) d_Desk_finishOrder_214 rfl (cd_isr_ref _) ?_
                      refine cd_iload (i := 7) d_Desk_finishOrder_216 rfl ?_
                      obtain ⟨c84, H⟩ := H
                      refine cd_callV (kc := (kc + 0)) (ks := (ks + 0)) (kc' := 0) (ks' := 0) (As := [.int x56]) (S := []) d_Desk_finishOrder_218 ca_Desk_finishOrder_334 c84 rfl (Nat.le_of_ble_eq_true rfl) (Nat.le_of_ble_eq_true rfl) ?_
                      refine cd_W.mono (fun r85 h86 H => ?_) H
                      obtain ⟨x87, rfl, H⟩ := H
                      obtain ⟨F88, H⟩ := H
                      show cd_W X m_Desk_finishOrder (kc + 0) (ks + 0) 221 [some (.ref 64), some (.ref b37), some (.int x7), some (.int x11), some (.int x19), some (.int x27), some (.ref b39), some (.int x56), some (.ref b60)] [.int x87] h86 Q
                      exact cd_iret d_Desk_finishOrder_221 rfl rfl H
                  · replace H := H.2 t53
                    refine cd_bipush (v := (-4)) d_Desk_finishOrder_146 (by decide) ?_
                    exact cd_iret d_Desk_finishOrder_148 rfl rfl H
      · replace H := H.2 t31
        refine cd_iconst (v := (-1)) d_Desk_finishOrder_92 (by decide) ?_
        exact cd_iret d_Desk_finishOrder_93 rfl rfl H

abbrev m_Desk_revokeCertificate : cd_M := (⟨"CertificateDesk", "revokeCertificate", "(LCertificateDesk$Account;)I"⟩, prog_1_method_47_code, 6, some .int, 29, 1548)
theorem d_Desk_revokeCertificate_0 : decode prog_1_method_47_code 0 = .ok (.aload_n 0, 1) := by decide +kernel
theorem d_Desk_revokeCertificate_1 : decode prog_1_method_47_code 1 = .ok (.getfield 37, 3) := by decide +kernel
theorem d_Desk_revokeCertificate_4 : decode prog_1_method_47_code 4 = .ok (.aload_n 0, 1) := by decide +kernel
theorem d_Desk_revokeCertificate_5 : decode prog_1_method_47_code 5 = .ok (.getfield 37, 3) := by decide +kernel
theorem d_Desk_revokeCertificate_8 : decode prog_1_method_47_code 8 = .ok (.iconst 0, 1) := by decide +kernel
theorem d_Desk_revokeCertificate_9 : decode prog_1_method_47_code 9 = .ok (.ldc_w 432, 3) := by decide +kernel
theorem d_Desk_revokeCertificate_12 : decode prog_1_method_47_code 12 = .ok (.invokevirtual 288, 3) := by decide +kernel
theorem ca_Desk_revokeCertificate_288 {X : cd_E} : cd_CV X m_Desk_revokeCertificate m_Not_field 288 2 6 := ⟨⟨by decide, kw_2_70, kw_1_3, ⟨by decide, by decide, by decide +kernel⟩, by decide, by decide⟩, ⟨_, rfl, rfl⟩, kw_2_68, kw_2_69, (Or.inl kw_2_67)⟩
theorem d_Desk_revokeCertificate_15 : decode prog_1_method_47_code 15 = .ok (.invokevirtual 388, 3) := by decide +kernel
theorem ca_Desk_revokeCertificate_388 {X : cd_E} : cd_CV X m_Desk_revokeCertificate m_Not_number 388 1 6 := ⟨⟨by decide, kw_4_26, kw_1_3, ⟨by decide, by decide, by decide +kernel⟩, by decide, by decide⟩, ⟨_, rfl, rfl⟩, kw_4_24, kw_4_25, (Or.inl kw_4_23)⟩
theorem d_Desk_revokeCertificate_18 : decode prog_1_method_47_code 18 = .ok (.istore_n 2, 1) := by decide +kernel
theorem d_Desk_revokeCertificate_19 : decode prog_1_method_47_code 19 = .ok (.aload_n 0, 1) := by decide +kernel
theorem d_Desk_revokeCertificate_20 : decode prog_1_method_47_code 20 = .ok (.getfield 37, 3) := by decide +kernel
theorem d_Desk_revokeCertificate_23 : decode prog_1_method_47_code 23 = .ok (.aload_n 0, 1) := by decide +kernel
theorem d_Desk_revokeCertificate_24 : decode prog_1_method_47_code 24 = .ok (.getfield 37, 3) := by decide +kernel
theorem d_Desk_revokeCertificate_27 : decode prog_1_method_47_code 27 = .ok (.iconst 0, 1) := by decide +kernel
theorem d_Desk_revokeCertificate_28 : decode prog_1_method_47_code 28 = .ok (.ldc_w 434, 3) := by decide +kernel
theorem d_Desk_revokeCertificate_31 : decode prog_1_method_47_code 31 = .ok (.invokevirtual 288, 3) := by decide +kernel
theorem d_Desk_revokeCertificate_34 : decode prog_1_method_47_code 34 = .ok (.invokevirtual 388, 3) := by decide +kernel
theorem d_Desk_revokeCertificate_37 : decode prog_1_method_47_code 37 = .ok (.istore_n 3, 1) := by decide +kernel
theorem d_Desk_revokeCertificate_38 : decode prog_1_method_47_code 38 = .ok (.iload_n 2, 1) := by decide +kernel
theorem d_Desk_revokeCertificate_39 : decode prog_1_method_47_code 39 = .ok (.iconst (-1), 1) := by decide +kernel
theorem d_Desk_revokeCertificate_40 : decode prog_1_method_47_code 40 = .ok (.if_icmp .eq 8, 3) := by decide +kernel
theorem d_Desk_revokeCertificate_48 : decode prog_1_method_47_code 48 = .ok (.iconst (-1), 1) := by decide +kernel
theorem d_Desk_revokeCertificate_49 : decode prog_1_method_47_code 49 = .ok (.ireturn, 1) := by decide +kernel
theorem d_Desk_revokeCertificate_43 : decode prog_1_method_47_code 43 = .ok (.iload_n 3, 1) := by decide +kernel
theorem d_Desk_revokeCertificate_44 : decode prog_1_method_47_code 44 = .ok (.iconst (-1), 1) := by decide +kernel
theorem d_Desk_revokeCertificate_45 : decode prog_1_method_47_code 45 = .ok (.if_icmp .ne 5, 3) := by decide +kernel
theorem d_Desk_revokeCertificate_50 : decode prog_1_method_47_code 50 = .ok (.aload_n 0, 1) := by decide +kernel
theorem d_Desk_revokeCertificate_51 : decode prog_1_method_47_code 51 = .ok (.iload_n 2, 1) := by decide +kernel
theorem d_Desk_revokeCertificate_52 : decode prog_1_method_47_code 52 = .ok (.invokevirtual 210, 3) := by decide +kernel
theorem kw_4_145 : (Jvm.Cond.methodLink "CertificateDesk" (210 : Nat) ({ cls := "CertificateDesk", name := "certificateAt", desc := "(I)LCertificateDesk$Certificate;" } : Jvm.MethodName)) ∈ cd_tbl := tb_4 (List.mem_of_getElem? (i := 145) (by decide +kernel)) (by decide)
theorem kw_4_148 : (Jvm.Cond.code ({ cls := "CertificateDesk", name := "certificateAt", desc := "(I)LCertificateDesk$Certificate;" } : Jvm.MethodName) prog_1_method_25_code (2 : Nat) (Option.some (Jvm.ClassFile.FieldType.object "CertificateDesk$Certificate"))) ∈ cd_tbl := tb_4 (List.mem_of_getElem? (i := 148) (by decide +kernel)) (by decide)
theorem kw_4_147 : (Jvm.Cond.instanceMethod ({ cls := "CertificateDesk", name := "certificateAt", desc := "(I)LCertificateDesk$Certificate;" } : Jvm.MethodName)) ∈ cd_tbl := tb_4 (List.mem_of_getElem? (i := 147) (by decide +kernel)) (by decide)
theorem kp_34 : Cond.selects "CertificateDesk" ⟨"CertificateDesk", "certificateAt", "(I)LCertificateDesk$Certificate;"⟩ ⟨"CertificateDesk", "certificateAt", "(I)LCertificateDesk$Certificate;"⟩ ∈ cd_tbl := cd_sel (List.mem_of_getElem? (i := 34) (by decide +kernel)) (by decide)
theorem ca_Desk_revokeCertificate_210 {X : cd_E} : cd_CV X m_Desk_revokeCertificate m_Desk_certificateAt 210 1 0 := ⟨⟨by decide, kw_4_148, kw_1_1, ⟨by decide, by decide, by decide +kernel⟩, by decide, by decide⟩, ⟨_, rfl, rfl⟩, kw_4_147, kp_34, (Or.inl kw_4_145)⟩
theorem d_Desk_revokeCertificate_55 : decode prog_1_method_47_code 55 = .ok (.astore 4, 2) := by decide +kernel
theorem d_Desk_revokeCertificate_57 : decode prog_1_method_47_code 57 = .ok (.aload_n 1, 1) := by decide +kernel
theorem d_Desk_revokeCertificate_58 : decode prog_1_method_47_code 58 = .ok (.ifnull 38, 3) := by decide +kernel
theorem d_Desk_revokeCertificate_96 : decode prog_1_method_47_code 96 = .ok (.bipush (-4), 2) := by decide +kernel
theorem d_Desk_revokeCertificate_98 : decode prog_1_method_47_code 98 = .ok (.ireturn, 1) := by decide +kernel
theorem d_Desk_revokeCertificate_61 : decode prog_1_method_47_code 61 = .ok (.aload 4, 2) := by decide +kernel
theorem d_Desk_revokeCertificate_63 : decode prog_1_method_47_code 63 = .ok (.ifnull 33, 3) := by decide +kernel
theorem d_Desk_revokeCertificate_66 : decode prog_1_method_47_code 66 = .ok (.aload 4, 2) := by decide +kernel
theorem d_Desk_revokeCertificate_68 : decode prog_1_method_47_code 68 = .ok (.getfield 436, 3) := by decide +kernel
theorem kw_4_122 : (Jvm.Cond.fieldLink "CertificateDesk" (436 : Nat) "CertificateDesk$Certificate" "owner" "LCertificateDesk$Account;") ∈ cd_tbl := tb_4 (List.mem_of_getElem? (i := 122) (by decide +kernel)) (by decide)
theorem fl_Desk_436 {X : cd_E} : cd_FL X "CertificateDesk" 436 3 0 (.object "CertificateDesk$Account") := cd_FL.of rfl rfl (by decide) kw_4_122 (Or.inl rfl)
theorem d_Desk_revokeCertificate_71 : decode prog_1_method_47_code 71 = .ok (.aload_n 1, 1) := by decide +kernel
theorem d_Desk_revokeCertificate_72 : decode prog_1_method_47_code 72 = .ok (.if_acmp .ne 24, 3) := by decide +kernel
theorem d_Desk_revokeCertificate_75 : decode prog_1_method_47_code 75 = .ok (.aload 4, 2) := by decide +kernel
theorem d_Desk_revokeCertificate_77 : decode prog_1_method_47_code 77 = .ok (.getfield 228, 3) := by decide +kernel
theorem kw_4_128 : (Jvm.Cond.fieldLink "CertificateDesk" (228 : Nat) "CertificateDesk$Certificate" "reason" "I") ∈ cd_tbl := tb_4 (List.mem_of_getElem? (i := 128) (by decide +kernel)) (by decide)
theorem fl_Desk_228 {X : cd_E} : cd_FL X "CertificateDesk" 228 3 3 .int := cd_FL.of rfl rfl (by decide) kw_4_128 (Or.inl rfl)
theorem d_Desk_revokeCertificate_80 : decode prog_1_method_47_code 80 = .ok (.iconst (-1), 1) := by decide +kernel
theorem d_Desk_revokeCertificate_81 : decode prog_1_method_47_code 81 = .ok (.if_icmp .ne 15, 3) := by decide +kernel
theorem d_Desk_revokeCertificate_84 : decode prog_1_method_47_code 84 = .ok (.iload_n 3, 1) := by decide +kernel
theorem d_Desk_revokeCertificate_85 : decode prog_1_method_47_code 85 = .ok (.bipush 10, 2) := by decide +kernel
theorem d_Desk_revokeCertificate_87 : decode prog_1_method_47_code 87 = .ok (.if_icmp .gt 9, 3) := by decide +kernel
theorem d_Desk_revokeCertificate_90 : decode prog_1_method_47_code 90 = .ok (.iload_n 3, 1) := by decide +kernel
theorem d_Desk_revokeCertificate_91 : decode prog_1_method_47_code 91 = .ok (.bipush 7, 2) := by decide +kernel
theorem d_Desk_revokeCertificate_93 : decode prog_1_method_47_code 93 = .ok (.if_icmp .ne 6, 3) := by decide +kernel
theorem d_Desk_revokeCertificate_99 : decode prog_1_method_47_code 99 = .ok (.aload_n 0, 1) := by decide +kernel
theorem d_Desk_revokeCertificate_100 : decode prog_1_method_47_code 100 = .ok (.iconst 4, 1) := by decide +kernel
theorem d_Desk_revokeCertificate_101 : decode prog_1_method_47_code 101 = .ok (.invokevirtual 150, 3) := by decide +kernel
theorem ca_Desk_revokeCertificate_150 {X : cd_E} : cd_CV X m_Desk_revokeCertificate m_Desk_keep 150 1 0 := ⟨⟨by decide, kw_2_130, kw_1_1, ⟨by decide, by decide, by decide +kernel⟩, by decide, by decide⟩, ⟨_, rfl, rfl⟩, kw_2_129, kp_13, (Or.inl kw_2_127)⟩
theorem d_Desk_revokeCertificate_104 : decode prog_1_method_47_code 104 = .ok (.astore 5, 2) := by decide +kernel
theorem d_Desk_revokeCertificate_106 : decode prog_1_method_47_code 106 = .ok (.aload 5, 2) := by decide +kernel
theorem d_Desk_revokeCertificate_108 : decode prog_1_method_47_code 108 = .ok (.getfield 157, 3) := by decide +kernel
theorem d_Desk_revokeCertificate_111 : decode prog_1_method_47_code 111 = .ok (.ifCond .eq 9, 3) := by decide +kernel
theorem d_Desk_revokeCertificate_120 : decode prog_1_method_47_code 120 = .ok (.aload 5, 2) := by decide +kernel
theorem d_Desk_revokeCertificate_122 : decode prog_1_method_47_code 122 = .ok (.iconst 0, 1) := by decide +kernel
theorem d_Desk_revokeCertificate_123 : decode prog_1_method_47_code 123 = .ok (.invokevirtual 334, 3) := by decide +kernel
theorem ca_Desk_revokeCertificate_334 {X : cd_E} : cd_CV X m_Desk_revokeCertificate m_Fat_answer 334 1 10 := ⟨⟨by decide, kw_2_232, kw_1_18, ⟨by decide, by decide, by decide +kernel⟩, by decide, by decide⟩, ⟨_, rfl, rfl⟩, kw_2_230, kw_2_231, (Or.inl kw_2_229)⟩
theorem d_Desk_revokeCertificate_126 : decode prog_1_method_47_code 126 = .ok (.ireturn, 1) := by decide +kernel
theorem d_Desk_revokeCertificate_114 : decode prog_1_method_47_code 114 = .ok (.aload 4, 2) := by decide +kernel
theorem d_Desk_revokeCertificate_116 : decode prog_1_method_47_code 116 = .ok (.iload_n 3, 1) := by decide +kernel
theorem d_Desk_revokeCertificate_117 : decode prog_1_method_47_code 117 = .ok (.putfield 228, 3) := by decide +kernel
theorem fp_Desk_revokeCertificate_228 {X : cd_E} : cd_FP X m_Desk_revokeCertificate 228 3 3 .int := cd_FP.of cl_3 rfl rfl (by decide) kw_4_128 (Or.inl rfl) (Or.inl rfl)
theorem g_Desk_revokeCertificate {X : cd_E} {kc ks : Nat} {h : cd_H} {Q : Option Value → cd_H → Prop} {p1 : Option Nat} (F : cc_ok h) (H : cd_W X m_Not_field 0 0 0 [some (.ref 71), some (.int 0), some (.ref 16), none, none, none, none] [] h (fun r1 h2 => ∃ x3 : Int32, r1 = some (.int x3) ∧ ((cc_ok h2) ∧ (cd_W X m_Not_number 0 0 0 [some (.ref 71), some (.int x3), none, none] [] h2 (fun r5 h6 => ∃ x7 : Int32, r5 = some (.int x7) ∧ ((cc_ok h6) ∧ (cd_W X m_Not_field 0 0 0 [some (.ref 71), some (.int 0), some (.ref 17), none, none, none, none] [] h6 (fun r9 h10 => ∃ x11 : Int32, r9 = some (.int x11) ∧ ((cc_ok h10) ∧ (cd_W X m_Not_number 0 0 0 [some (.ref 71), some (.int x11), none, none] [] h10 (fun r13 h14 => ∃ x15 : Int32, r13 = some (.int x15) ∧ ((cc_ok h14) ∧ ((((x7 = (-1)) → (Q (some (.int (-1))) h14)) ∧ ((¬ x7 = (-1)) → ((((¬ x15 = (-1)) → (cd_W X m_Desk_certificateAt 0 0 0 [some (.ref 64), some (.int x7)] [] h14 (fun r19 h20 => ∃ o21 : Option Nat, r19 = some (va_rf o21) ∧ ((cc_ok h20) ∧ ((((p1 = none) → (Q (some (.int (-4))) h20)) ∧ (∀ b24 : Nat, p1 = some b24 → ((((o21 = none) → (Q (some (.int (-4))) h20)) ∧ (∀ b26 : Nat, o21 = some b26 → ((cd_k h20 b26 = some (.inl 3)) ∧ ((cd_apart (cd_r h20 b26 0) (some b24)) ∧ ((((¬ (cd_r h20 b26 0) = (some b24)) → (Q (some (.int (-4))) h20)) ∧ (((cd_r h20 b26 0) = (some b24)) → ((((¬ (cd_i h20 b26 3) = (-1)) → (Q (some (.int (-4))) h20)) ∧ (((cd_i h20 b26 3) = (-1)) → ((((10 < x15) → (Q (some (.int (-4))) h20)) ∧ ((¬ 10 < x15) → ((((¬ x15 = 7) → (cd_W X m_Desk_keep 0 0 0 [some (.ref 64), some (.int 4), none] [] h20 (fun r33 h34 => ∃ b35 : Nat, r33 = some (.ref b35) ∧ ((cc_ok h34) ∧ ((cd_k h34 b35 = some (.inl 10)) ∧ (((((cd_i h34 b35 0) = 0) → (cd_W X m_Fat_answer 0 0 0 [some (.ref b35), some (.int 0)] [] h34 (fun r39 h40 => ∃ x41 : Int32, r39 = some (.int x41) ∧ ((cc_ok h40) ∧ (Q (some (.int x41)) h40))))) ∧ ((¬ (cd_i h34 b35 0) = 0) → ((cd_k h34 b26 = some (.inl 3)) ∧ ((64 ≤ b26) ∧ (cd_W X m_Fat_answer 0 0 0 [some (.ref b35), some (.int 0)] [] (cd_si h34 b26 3 x15) (fun r45 h46 => ∃ x47 : Int32, r45 = some (.int x47) ∧ ((cc_ok h46) ∧ (Q (some (.int x47)) h46)))))))))))))) ∧ ((x15 = 7) → (Q (some (.int (-4))) h20))))))))))))))))))))))))) ∧ ((x15 = (-1)) → (Q (some (.int (-1))) h14))))))))))))))))))) : cd_W X m_Desk_revokeCertificate kc ks 0 [some (.ref 64), some (va_rf p1), none, none, none, none] [] h Q := by
  refine cd_aload_n (i := 0) (v := .ref 64) d_Desk_revokeCertificate_0 rfl rfl (cd_isr_ref _) ?_
  refine cd_get (v := .ref 71) d_Desk_revokeCertificate_1 fl_Desk_37 (cc_k64 F) (congrArg va_rf (cc_r64_3 F)) ?_
  refine cd_aload_n (i := 0) (v := .ref 64) d_Desk_revokeCertificate_4 rfl rfl (cd_isr_ref _) ?_
  refine cd_get (v := .ref 71) d_Desk_revokeCertificate_5 fl_Desk_37 (cc_k64 F) (congrArg va_rf (cc_r64_3 F)) ?_
  refine cd_iconst (v := 0) d_Desk_revokeCertificate_8 (by decide) ?_
  refine cd_ldcS d_Desk_revokeCertificate_9 (tx := "serial") (i := 16) (List.mem_of_getElem? (i := 11) rfl) ?_
  refine cd_callV (kc := kc) (ks := ks) (kc' := 0) (ks' := 0) (As := [.int 0, .ref 16]) (S := [.ref 71]) d_Desk_revokeCertificate_12 ca_Desk_revokeCertificate_288 (cc_k71 F) rfl (Nat.le_of_ble_eq_true rfl) (Nat.le_of_ble_eq_true rfl) ?_
  refine cd_W.mono (fun r1 h2 H => ?_) H
  obtain ⟨x3, rfl, H⟩ := H
  obtain ⟨F4, H⟩ := H
  show cd_W X m_Desk_revokeCertificate kc ks 15 [some (.ref 64), some (va_rf p1), none, none, none, none] [.int x3, .ref 71] h2 Q
  refine cd_callV (kc := kc) (ks := ks) (kc' := 0) (ks' := 0) (As := [.int x3]) (S := []) d_Desk_revokeCertificate_15 ca_Desk_revokeCertificate_388 (cc_k71 F4) rfl (Nat.le_of_ble_eq_true rfl) (Nat.le_of_ble_eq_true rfl) ?_
  refine cd_W.mono (fun r5 h6 H => ?_) H
  obtain ⟨x7, rfl, H⟩ := H
  obtain ⟨F8, H⟩ := H
  show cd_W X m_Desk_revokeCertificate kc ks 18 [some (.ref 64), some (va_rf p1), none, none, none, none] [.int x7] h6 Q
  refine cd_istore_n (i := 2) d_Desk_revokeCertificate_18 rfl (by decide) ?_
  show cd_W X m_Desk_revokeCertificate kc ks 19 [some (.ref 64), cd_kl (some (va_rf p1)), some (.int x7), none, none, none] [] h6 Q
  rw [cd_kl_rf]
  refine cd_aload_n (i := 0) (v := .ref 64) d_Desk_revokeCertificate_19 rfl rfl (cd_isr_ref _) ?_
  refine cd_get (v := .ref 71) d_Desk_revokeCertificate_20 fl_Desk_37 (cc_k64 F8) (congrArg va_rf (cc_r64_3 F8)) ?_
  refine cd_aload_n (i := 0) (v := .ref 64) d_Desk_revokeCertificate_23 rfl rfl (cd_isr_ref _) ?_
  refine cd_get (v := .ref 71) d_Desk_revokeCertificate_24 fl_Desk_37 (cc_k64 F8) (congrArg va_rf (cc_r64_3 F8)) ?_
  refine cd_iconst (v := 0) d_Desk_revokeCertificate_27 (by decide) ?_
  refine cd_ldcS d_Desk_revokeCertificate_28 (tx := "why") (i := 17) (List.mem_of_getElem? (i := 12) rfl) ?_
  refine cd_callV (kc := kc) (ks := ks) (kc' := 0) (ks' := 0) (As := [.int 0, .ref 17]) (S := [.ref 71]) d_Desk_revokeCertificate_31 ca_Desk_revokeCertificate_288 (cc_k71 F8) rfl (Nat.le_of_ble_eq_true rfl) (Nat.le_of_ble_eq_true rfl) ?_
  refine cd_W.mono (fun r9 h10 H => ?_) H
  obtain ⟨x11, rfl, H⟩ := H
  obtain ⟨F12, H⟩ := H
  show cd_W X m_Desk_revokeCertificate kc ks 34 [some (.ref 64), some (va_rf p1), some (.int x7), none, none, none] [.int x11, .ref 71] h10 Q
  refine cd_callV (kc := kc) (ks := ks) (kc' := 0) (ks' := 0) (As := [.int x11]) (S := []) d_Desk_revokeCertificate_34 ca_Desk_revokeCertificate_388 (cc_k71 F12) rfl (Nat.le_of_ble_eq_true rfl) (Nat.le_of_ble_eq_true rfl) ?_
  refine cd_W.mono (fun r13 h14 H => ?_) H
  obtain ⟨x15, rfl, H⟩ := H
  obtain ⟨F16, H⟩ := H
  show cd_W X m_Desk_revokeCertificate kc ks 37 [some (.ref 64), some (va_rf p1), some (.int x7), none, none, none] [.int x15] h14 Q
  refine cd_istore_n (i := 3) d_Desk_revokeCertificate_37 rfl (by decide) ?_
  show cd_W X m_Desk_revokeCertificate kc ks 38 [some (.ref 64), some (va_rf p1), some (.int x7), some (.int x15), none, none] [] h14 Q
  refine cd_iload_n (i := 2) d_Desk_revokeCertificate_38 rfl rfl ?_
  refine cd_iconst (v := (-1)) d_Desk_revokeCertificate_39 (by decide) ?_
  refine cd_icmp_eq (tgt := 48) d_Desk_revokeCertificate_40 (by decide) (fun t17 => ?_) (fun t17 => ?_)
  · replace H := H.1 t17
    refine cd_iconst (v := (-1)) d_Desk_revokeCertificate_48 (by decide) ?_
    exact cd_iret d_Desk_revokeCertificate_49 rfl rfl H
  · replace H := H.2 t17
    refine cd_iload_n (i := 3) d_Desk_revokeCertificate_43 rfl rfl ?_
    refine cd_iconst (v := (-1)) d_Desk_revokeCertificate_44 (by decide) ?_
    refine cd_icmp_ne (tgt := 50) d_Desk_revokeCertificate_45 (by decide) (fun t18 => ?_) (fun t18 => ?_)
    · replace H := H.1 t18
      refine cd_aload_n (i := 0) (v := .ref 64) d_Desk_revokeCertificate_50 rfl rfl (cd_isr_ref _) ?_
      refine cd_iload_n (i := 2) d_Desk_revokeCertificate_51 rfl rfl ?_
      refine cd_callV (kc := kc) (ks := ks) (kc' := 0) (ks' := 0) (As := [.int x7]) (S := []) d_Desk_revokeCertificate_52 ca_Desk_revokeCertificate_210 (cc_k64 F16) rfl (Nat.le_of_ble_eq_true rfl) (Nat.le_of_ble_eq_true rfl) ?_
      refine cd_W.mono (fun r19 h20 H => ?_) H
      obtain ⟨o21, rfl, H⟩ := H
      obtain ⟨F22, H⟩ := H
      show cd_W X m_Desk_revokeCertificate kc ks 55 [some (.ref 64), some (va_rf p1), some (.int x7), some (.int x15), none, none] [va_rf o21] h20 Q
      refine cd_astore (i := 4) d_Desk_revokeCertificate_55 (by decide) (cd_isr_rf _) ?_
      show cd_W X m_Desk_revokeCertificate kc ks 57 [some (.ref 64), some (va_rf p1), some (.int x7), some (.int x15), some (va_rf o21), none] [] h20 Q
      refine cd_aload_n (i := 1) (v := va_rf p1) d_Desk_revokeCertificate_57 rfl rfl (cd_isr_rf _) ?_
      refine cd_ifnull (r := p1) (tgt := 96) d_Desk_revokeCertificate_58 (by decide) (fun t23 => ?_) (fun b24 t23 => ?_)
      · replace H := H.1 t23
        rw [cd_rfn t23]
        refine cd_bipush (v := (-4)) d_Desk_revokeCertificate_96 (by decide) ?_
        exact cd_iret d_Desk_revokeCertificate_98 rfl rfl H
      · replace H := H.2 b24 t23
        rw [cd_rfs t23]
        refine cd_aload (i := 4) (v := va_rf o21) d_Desk_revokeCertificate_61 rfl (cd_isr_rf _) ?_
        refine cd_ifnull (r := o21) (tgt := 96) d_Desk_revokeCertificate_63 (by decide) (fun t25 => ?_) (fun b26 t25 => ?_)
        · replace H := H.1 t25
          rw [cd_rfn t25]
          refine cd_bipush (v := (-4)) d_Desk_revokeCertificate_96 (by decide) ?_
          exact cd_iret d_Desk_revokeCertificate_98 rfl rfl H
        · replace H := H.2 b26 t25
          rw [cd_rfs t25]
          refine cd_aload (i := 4) (v := .ref b26) d_Desk_revokeCertificate_66 rfl (cd_isr_ref _) ?_
          obtain ⟨c27, H⟩ := H
          refine cd_get (v := va_rf (cd_r h20 b26 0)) d_Desk_revokeCertificate_68 fl_Desk_436 c27 rfl ?_
          refine cd_aload_n (i := 1) (v := .ref b24) d_Desk_revokeCertificate_71 rfl rfl (cd_isr_ref _) ?_
          obtain ⟨c28, H⟩ := H
          refine cd_acmp_ne (rx := (cd_r h20 b26 0)) (ry := (some b24)) (tgt := 96) d_Desk_revokeCertificate_72 (by decide) c28 (fun t29 => ?_) (fun t29 => ?_)
          · replace H := H.1 t29
            refine cd_bipush (v := (-4)) d_Desk_revokeCertificate_96 (by decide) ?_
            exact cd_iret d_Desk_revokeCertificate_98 rfl rfl H
          · replace H := H.2 t29
            refine cd_aload (i := 4) (v := .ref b26) d_Desk_revokeCertificate_75 rfl (cd_isr_ref _) ?_
            refine cd_get (v := .int (cd_i h20 b26 3)) d_Desk_revokeCertificate_77 fl_Desk_228 c27 rfl ?_
            refine cd_iconst (v := (-1)) d_Desk_revokeCertificate_80 (by decide) ?_
            refine cd_icmp_ne (tgt := 96) d_Desk_revokeCertificate_81 (by decide) (fun t30 => ?_) (fun t30 => ?_)
            · replace H := H.1 t30
              refine cd_bipush (v := (-4)) d_Desk_revokeCertificate_96 (by decide) ?_
              exact cd_iret d_Desk_revokeCertificate_98 rfl rfl H
            · replace H := H.2 t30
              refine cd_iload_n (i := 3) d_Desk_revokeCertificate_84 rfl rfl ?_
              refine cd_bipush (v := 10) d_Desk_revokeCertificate_85 (by decide) ?_
              refine cd_icmp_gt (tgt := 96) d_Desk_revokeCertificate_87 (by decide) (fun t31 => ?_) (fun t31 => ?_)
              · replace H := H.1 t31
                refine cd_bipush (v := (-4)) d_Desk_revokeCertificate_96 (by decide) ?_
                exact cd_iret d_Desk_revokeCertificate_98 rfl rfl H
              · replace H := H.2 t31
                refine cd_iload_n (i := 3) d_Desk_revokeCertificate_90 rfl rfl ?_
                refine cd_bipush (v := 7) d_Desk_revokeCertificate_91 (by decide) ?_
                refine cd_icmp_ne (tgt := 99) d_Desk_revokeCertificate_93 (by decide) (fun t32 => ?_) (fun t32 => ?_)
                · replace H := H.1 t32
                  refine cd_aload_n (i := 0) (v := .ref 64) d_Desk_revokeCertificate_99 rfl rfl (cd_isr_ref _) ?_
                  refine cd_iconst (v := 4) d_Desk_revokeCertificate_100 (by decide) ?_
                  refine cd_callV (kc := kc) (ks := ks) (kc' := 0) (ks' := 0) (As := [.int 4]) (S := []) d_Desk_revokeCertificate_101 ca_Desk_revokeCertificate_150 (cc_k64 F22) rfl (Nat.le_of_ble_eq_true rfl) (Nat.le_of_ble_eq_true rfl) ?_
                  refine cd_W.mono (fun r33 h34 H => ?_) H
                  obtain ⟨b35, rfl, H⟩ := H
                  obtain ⟨F36, H⟩ := H
                  show cd_W X m_Desk_revokeCertificate kc ks 104 [some (.ref 64), some (.ref b24), some (.int x7), some (.int x15), some (.ref b26), none] [.ref b35] h34 Q
                  refine cd_astore (i := 5) d_Desk_revokeCertificate_104 (by decide) (cd_isr_ref _) ?_
                  show cd_W X m_Desk_revokeCertificate kc ks 106 [some (.ref 64), some (.ref b24), some (.int x7), some (.int x15), some (.ref b26), some (.ref b35)] [] h34 Q
                  refine cd_aload (i := 5) (v := .ref b35) d_Desk_revokeCertificate_106 rfl (cd_isr_ref _) ?_
                  obtain ⟨c37, H⟩ := H
                  refine cd_get (v := .int (cd_i h34 b35 0)) d_Desk_revokeCertificate_108 fl_Desk_157 c37 rfl ?_
                  refine cd_if_eq (tgt := 120) d_Desk_revokeCertificate_111 (by decide) (fun t38 => ?_) (fun t38 => ?_)
                  · replace H := H.1 t38
                    refine cd_aload (i := 5) (v := .ref b35) d_Desk_revokeCertificate_120 rfl (cd_isr_ref _) ?_
                    refine cd_iconst (v := 0) d_Desk_revokeCertificate_122 (by decide) ?_
                    refine cd_callV (kc := kc) (ks := ks) (kc' := 0) (ks' := 0) (As := [.int 0]) (S := []) d_Desk_revokeCertificate_123 ca_Desk_revokeCertificate_334 c37 rfl (Nat.le_of_ble_eq_true rfl) (Nat.le_of_ble_eq_true rfl) ?_
                    refine cd_W.mono (fun r39 h40 H => ?_) H
                    obtain ⟨x41, rfl, H⟩ := H
                    obtain ⟨F42, H⟩ := H
                    show cd_W X m_Desk_revokeCertificate kc ks 126 [some (.ref 64), some (.ref b24), some (.int x7), some (.int x15), some (.ref b26), some (.ref b35)] [.int x41] h40 Q
                    exact cd_iret d_Desk_revokeCertificate_126 rfl rfl H
                  · replace H := H.2 t38
                    refine cd_aload (i := 4) (v := .ref b26) d_Desk_revokeCertificate_114 rfl (cd_isr_ref _) ?_
                    refine cd_iload_n (i := 3) d_Desk_revokeCertificate_116 rfl rfl ?_
                    obtain ⟨c43, H⟩ := H
                    obtain ⟨c44, H⟩ := H
                    refine cd_putI d_Desk_revokeCertificate_117 fp_Desk_revokeCertificate_228 (fun _ _ _ => rfl) c43 c44 rfl rfl ?_
                    refine cd_aload (i := 5) (v := .ref b35) d_Desk_revokeCertificate_120 rfl (cd_isr_ref _) ?_
                    refine cd_iconst (v := 0) d_Desk_revokeCertificate_122 (by decide) ?_
                    refine cd_callV (kc := kc) (ks := ks) (kc' := 0) (ks' := 0) (As := [.int 0]) (S := []) d_Desk_revokeCertificate_123 ca_Desk_revokeCertificate_334 c37 rfl (Nat.le_of_ble_eq_true rfl) (Nat.le_of_ble_eq_true rfl) ?_
                    refine cd_W.mono (fun r45 h46 H => ?_) H
                    obtain ⟨x47, rfl, H⟩ := H
                    obtain ⟨F48, H⟩ := H
                    show cd_W X m_Desk_revokeCertificate kc ks 126 [some (.ref 64), some (.ref b24), some (.int x7), some (.int x15), some (.ref b26), some (.ref b35)] [.int x47] h46 Q
                    exact cd_iret d_Desk_revokeCertificate_126 rfl rfl H
                · replace H := H.2 t32
                  refine cd_bipush (v := (-4)) d_Desk_revokeCertificate_96 (by decide) ?_
                  exact cd_iret d_Desk_revokeCertificate_98 rfl rfl H
    · replace H := H.2 t18
      refine cd_iconst (v := (-1)) d_Desk_revokeCertificate_48 (by decide) ?_
      exact cd_iret d_Desk_revokeCertificate_49 rfl rfl H

abbrev m_Desk_closeAccount : cd_M := (⟨"CertificateDesk", "closeAccount", "(LCertificateDesk$Account;)I"⟩, prog_1_method_48_code, 3, some .int, 13, 282)
theorem d_Desk_closeAccount_0 : decode prog_1_method_48_code 0 = .ok (.aload_n 1, 1) := by decide +kernel
theorem d_Desk_closeAccount_1 : decode prog_1_method_48_code 1 = .ok (.ifnonnull 6, 3) := by decide +kernel
theorem d_Desk_closeAccount_7 : decode prog_1_method_48_code 7 = .ok (.aload_n 0, 1) := by decide +kernel
theorem d_Desk_closeAccount_8 : decode prog_1_method_48_code 8 = .ok (.iconst 3, 1) := by decide +kernel
theorem d_Desk_closeAccount_9 : decode prog_1_method_48_code 9 = .ok (.invokevirtual 150, 3) := by decide +kernel
theorem ca_Desk_closeAccount_150 {X : cd_E} : cd_CV X m_Desk_closeAccount m_Desk_keep 150 1 0 := ⟨⟨by decide, kw_2_130, kw_1_1, ⟨by decide, by decide, by decide +kernel⟩, by decide, by decide⟩, ⟨_, rfl, rfl⟩, kw_2_129, kp_13, (Or.inl kw_2_127)⟩
theorem d_Desk_closeAccount_12 : decode prog_1_method_48_code 12 = .ok (.astore_n 2, 1) := by decide +kernel
theorem d_Desk_closeAccount_13 : decode prog_1_method_48_code 13 = .ok (.aload_n 2, 1) := by decide +kernel
theorem d_Desk_closeAccount_14 : decode prog_1_method_48_code 14 = .ok (.getfield 157, 3) := by decide +kernel
theorem d_Desk_closeAccount_17 : decode prog_1_method_48_code 17 = .ok (.ifCond .eq 8, 3) := by decide +kernel
theorem d_Desk_closeAccount_25 : decode prog_1_method_48_code 25 = .ok (.aload_n 2, 1) := by decide +kernel
theorem d_Desk_closeAccount_26 : decode prog_1_method_48_code 26 = .ok (.iconst 0, 1) := by decide +kernel
theorem d_Desk_closeAccount_27 : decode prog_1_method_48_code 27 = .ok (.invokevirtual 334, 3) := by decide +kernel
theorem ca_Desk_closeAccount_334 {X : cd_E} : cd_CV X m_Desk_closeAccount m_Fat_answer 334 1 10 := ⟨⟨by decide, kw_2_232, kw_1_18, ⟨by decide, by decide, by decide +kernel⟩, by decide, by decide⟩, ⟨_, rfl, rfl⟩, kw_2_230, kw_2_231, (Or.inl kw_2_229)⟩
theorem d_Desk_closeAccount_30 : decode prog_1_method_48_code 30 = .ok (.ireturn, 1) := by decide +kernel
theorem d_Desk_closeAccount_20 : decode prog_1_method_48_code 20 = .ok (.aload_n 1, 1) := by decide +kernel
theorem d_Desk_closeAccount_21 : decode prog_1_method_48_code 21 = .ok (.iconst 1, 1) := by decide +kernel
theorem d_Desk_closeAccount_22 : decode prog_1_method_48_code 22 = .ok (.putfield 179, 3) := by decide +kernel
theorem fp_Desk_closeAccount_179 {X : cd_E} : cd_FP X m_Desk_closeAccount 179 1 1 .boolean := cd_FP.of cl_1 rfl rfl (by decide) kw_2_160 (Or.inl rfl) (Or.inl rfl)
theorem d_Desk_closeAccount_4 : decode prog_1_method_48_code 4 = .ok (.bipush (-4), 2) := by decide +kernel
theorem d_Desk_closeAccount_6 : decode prog_1_method_48_code 6 = .ok (.ireturn, 1) := by decide +kernel
theorem g_Desk_closeAccount {X : cd_E} {kc ks : Nat} {h : cd_H} {Q : Option Value → cd_H → Prop} {p1 : Option Nat} (F : cc_ok h) (H : (((p1 = none) → (Q (some (.int (-4))) h)) ∧ (∀ b2 : Nat, p1 = some b2 → (cd_W X m_Desk_keep 0 0 0 [some (.ref 64), some (.int 3), none] [] h (fun r3 h4 => ∃ b5 : Nat, r3 = some (.ref b5) ∧ ((cc_ok h4) ∧ ((cd_k h4 b5 = some (.inl 10)) ∧ (((((cd_i h4 b5 0) = 0) → (cd_W X m_Fat_answer 0 0 0 [some (.ref b5), some (.int 0)] [] h4 (fun r9 h10 => ∃ x11 : Int32, r9 = some (.int x11) ∧ ((cc_ok h10) ∧ (Q (some (.int x11)) h10))))) ∧ ((¬ (cd_i h4 b5 0) = 0) → ((cd_k h4 b2 = some (.inl 1)) ∧ ((64 ≤ b2) ∧ (cd_W X m_Fat_answer 0 0 0 [some (.ref b5), some (.int 0)] [] (cd_si h4 b2 1 1) (fun r15 h16 => ∃ x17 : Int32, r15 = some (.int x17) ∧ ((cc_ok h16) ∧ (Q (some (.int x17)) h16)))))))))))))))) : cd_W X m_Desk_closeAccount kc ks 0 [some (.ref 64), some (va_rf p1), none] [] h Q := by
  refine cd_aload_n (i := 1) (v := va_rf p1) d_Desk_closeAccount_0 rfl rfl (cd_isr_rf _) ?_
  refine cd_ifnonnull (r := p1) (tgt := 7) d_Desk_closeAccount_1 (by decide) (fun b2 t1 => ?_) (fun t1 => ?_)
  · replace H := H.2 b2 t1
    rw [cd_rfs t1]
    refine cd_aload_n (i := 0) (v := .ref 64) d_Desk_closeAccount_7 rfl rfl (cd_isr_ref _) ?_
    refine cd_iconst (v := 3) d_Desk_closeAccount_8 (by decide) ?_
    refine cd_callV (kc := kc) (ks := ks) (kc' := 0) (ks' := 0) (As := [.int 3]) (S := []) d_Desk_closeAccount_9 ca_Desk_closeAccount_150 (cc_k64 F) rfl (Nat.le_of_ble_eq_true rfl) (Nat.le_of_ble_eq_true rfl) ?_
    refine cd_W.mono (fun r3 h4 H => ?_) H
    obtain ⟨b5, rfl, H⟩ := H
    obtain ⟨F6, H⟩ := H
    show cd_W X m_Desk_closeAccount kc ks 12 [some (.ref 64), some (.ref b2), none] [.ref b5] h4 Q
    refine cd_astore_n (i := 2) d_Desk_closeAccount_12 rfl (by decide) (cd_isr_ref _) ?_
    show cd_W X m_Desk_closeAccount kc ks 13 [some (.ref 64), some (.ref b2), some (.ref b5)] [] h4 Q
    refine cd_aload_n (i := 2) (v := .ref b5) d_Desk_closeAccount_13 rfl rfl (cd_isr_ref _) ?_
    obtain ⟨c7, H⟩ := H
    refine cd_get (v := .int (cd_i h4 b5 0)) d_Desk_closeAccount_14 fl_Desk_157 c7 rfl ?_
    refine cd_if_eq (tgt := 25) d_Desk_closeAccount_17 (by decide) (fun t8 => ?_) (fun t8 => ?_)
    · replace H := H.1 t8
      refine cd_aload_n (i := 2) (v := .ref b5) d_Desk_closeAccount_25 rfl rfl (cd_isr_ref _) ?_
      refine cd_iconst (v := 0) d_Desk_closeAccount_26 (by decide) ?_
      refine cd_callV (kc := kc) (ks := ks) (kc' := 0) (ks' := 0) (As := [.int 0]) (S := []) d_Desk_closeAccount_27 ca_Desk_closeAccount_334 c7 rfl (Nat.le_of_ble_eq_true rfl) (Nat.le_of_ble_eq_true rfl) ?_
      refine cd_W.mono (fun r9 h10 H => ?_) H
      obtain ⟨x11, rfl, H⟩ := H
      obtain ⟨F12, H⟩ := H
      show cd_W X m_Desk_closeAccount kc ks 30 [some (.ref 64), some (.ref b2), some (.ref b5)] [.int x11] h10 Q
      exact cd_iret d_Desk_closeAccount_30 rfl rfl H
    · replace H := H.2 t8
      refine cd_aload_n (i := 1) (v := .ref b2) d_Desk_closeAccount_20 rfl rfl (cd_isr_ref _) ?_
      refine cd_iconst (v := 1) d_Desk_closeAccount_21 (by decide) ?_
      obtain ⟨c13, H⟩ := H
      obtain ⟨c14, H⟩ := H
      refine cd_putI d_Desk_closeAccount_22 fp_Desk_closeAccount_179 (fun _ _ _ => rfl) c13 c14 rfl (by decide) ?_
      refine cd_aload_n (i := 2) (v := .ref b5) d_Desk_closeAccount_25 rfl rfl (cd_isr_ref _) ?_
      refine cd_iconst (v := 0) d_Desk_closeAccount_26 (by decide) ?_
      refine cd_callV (kc := kc) (ks := ks) (kc' := 0) (ks' := 0) (As := [.int 0]) (S := []) d_Desk_closeAccount_27 ca_Desk_closeAccount_334 c7 rfl (Nat.le_of_ble_eq_true rfl) (Nat.le_of_ble_eq_true rfl) ?_
      refine cd_W.mono (fun r15 h16 H => ?_) H
      obtain ⟨x17, rfl, H⟩ := H
      obtain ⟨F18, H⟩ := H
      show cd_W X m_Desk_closeAccount kc ks 30 [some (.ref 64), some (.ref b2), some (.ref b5)] [.int x17] h16 Q
      exact cd_iret d_Desk_closeAccount_30 rfl rfl H
  · replace H := H.1 t1
    rw [cd_rfn t1]
    refine cd_bipush (v := (-4)) d_Desk_closeAccount_4 (by decide) ?_
    exact cd_iret d_Desk_closeAccount_6 rfl rfl H

abbrev m_Desk_perform : cd_M := (⟨"CertificateDesk", "perform", "(LCertificateDesk$Key;LCertificateDesk$Account;)I"⟩, prog_1_method_35_code, 4, some .int, 31, 1576)
theorem d_Desk_perform_0 : decode prog_1_method_35_code 0 = .ok (.aload_n 0, 1) := by decide +kernel
theorem d_Desk_perform_1 : decode prog_1_method_35_code 1 = .ok (.getfield 37, 3) := by decide +kernel
theorem d_Desk_perform_4 : decode prog_1_method_35_code 4 = .ok (.invokevirtual 282, 3) := by decide +kernel
theorem kw_2_38 : (Jvm.Cond.methodLink "CertificateDesk" (282 : Nat) ({ cls := "CertificateDesk$Notation", name := "isObject", desc := "()Z" } : Jvm.MethodName)) ∈ cd_tbl := tb_2 (List.mem_of_getElem? (i := 38) (by decide +kernel)) (by decide)
theorem kw_2_41 : (Jvm.Cond.code ({ cls := "CertificateDesk$Notation", name := "isObject", desc := "()Z" } : Jvm.MethodName) prog_9_method_5_code (1 : Nat) (Option.some Jvm.ClassFile.FieldType.boolean)) ∈ cd_tbl := tb_2 (List.mem_of_getElem? (i := 41) (by decide +kernel)) (by decide)
theorem kw_2_39 : (Jvm.Cond.instanceMethod ({ cls := "CertificateDesk$Notation", name := "isObject", desc := "()Z" } : Jvm.MethodName)) ∈ cd_tbl := tb_2 (List.mem_of_getElem? (i := 39) (by decide +kernel)) (by decide)
theorem kw_2_40 : (Jvm.Cond.selects "CertificateDesk$Notation" ({ cls := "CertificateDesk$Notation", name := "isObject", desc := "()Z" } : Jvm.MethodName) ({ cls := "CertificateDesk$Notation", name := "isObject", desc := "()Z" } : Jvm.MethodName)) ∈ cd_tbl := tb_2 (List.mem_of_getElem? (i := 40) (by decide +kernel)) (by decide)
theorem ca_Desk_perform_282 {X : cd_E} : cd_CV X m_Desk_perform m_Not_isObject 282 0 6 := ⟨⟨by decide, kw_2_41, kw_1_3, ⟨by decide, by decide, by decide +kernel⟩, by decide, by decide⟩, ⟨_, rfl, rfl⟩, kw_2_39, kw_2_40, (Or.inl kw_2_38)⟩
theorem d_Desk_perform_7 : decode prog_1_method_35_code 7 = .ok (.ifCond .ne 5, 3) := by decide +kernel
theorem d_Desk_perform_12 : decode prog_1_method_35_code 12 = .ok (.aload_n 0, 1) := by decide +kernel
theorem d_Desk_perform_13 : decode prog_1_method_35_code 13 = .ok (.getfield 37, 3) := by decide +kernel
theorem d_Desk_perform_16 : decode prog_1_method_35_code 16 = .ok (.iconst 0, 1) := by decide +kernel
theorem d_Desk_perform_17 : decode prog_1_method_35_code 17 = .ok (.ldc_w 286, 3) := by decide +kernel
theorem d_Desk_perform_20 : decode prog_1_method_35_code 20 = .ok (.invokevirtual 288, 3) := by decide +kernel
theorem ca_Desk_perform_288 {X : cd_E} : cd_CV X m_Desk_perform m_Not_field 288 2 6 := ⟨⟨by decide, kw_2_70, kw_1_3, ⟨by decide, by decide, by decide +kernel⟩, by decide, by decide⟩, ⟨_, rfl, rfl⟩, kw_2_68, kw_2_69, (Or.inl kw_2_67)⟩
theorem d_Desk_perform_23 : decode prog_1_method_35_code 23 = .ok (.istore_n 3, 1) := by decide +kernel
theorem d_Desk_perform_24 : decode prog_1_method_35_code 24 = .ok (.aload_n 0, 1) := by decide +kernel
theorem d_Desk_perform_25 : decode prog_1_method_35_code 25 = .ok (.getfield 37, 3) := by decide +kernel
theorem d_Desk_perform_28 : decode prog_1_method_35_code 28 = .ok (.iload_n 3, 1) := by decide +kernel
theorem d_Desk_perform_29 : decode prog_1_method_35_code 29 = .ok (.ldc_w 292, 3) := by decide +kernel
theorem d_Desk_perform_32 : decode prog_1_method_35_code 32 = .ok (.invokevirtual 294, 3) := by decide +kernel
theorem ca_Desk_perform_294 {X : cd_E} : cd_CV X m_Desk_perform m_Not_spells 294 2 6 := ⟨⟨by decide, kw_2_74, kw_1_3, ⟨by decide, by decide, by decide +kernel⟩, by decide, by decide⟩, ⟨_, rfl, rfl⟩, kw_2_72, kw_2_73, (Or.inl kw_2_122)⟩
theorem d_Desk_perform_35 : decode prog_1_method_35_code 35 = .ok (.ifCond .eq 10, 3) := by decide +kernel
theorem d_Desk_perform_45 : decode prog_1_method_35_code 45 = .ok (.aload_n 0, 1) := by decide +kernel
theorem d_Desk_perform_46 : decode prog_1_method_35_code 46 = .ok (.getfield 37, 3) := by decide +kernel
theorem d_Desk_perform_49 : decode prog_1_method_35_code 49 = .ok (.iload_n 3, 1) := by decide +kernel
theorem d_Desk_perform_50 : decode prog_1_method_35_code 50 = .ok (.ldc_w 301, 3) := by decide +kernel
theorem d_Desk_perform_53 : decode prog_1_method_35_code 53 = .ok (.invokevirtual 294, 3) := by decide +kernel
theorem d_Desk_perform_56 : decode prog_1_method_35_code 56 = .ok (.ifCond .eq 9, 3) := by decide +kernel
theorem d_Desk_perform_65 : decode prog_1_method_35_code 65 = .ok (.aload_n 0, 1) := by decide +kernel
theorem d_Desk_perform_66 : decode prog_1_method_35_code 66 = .ok (.getfield 37, 3) := by decide +kernel
theorem d_Desk_perform_69 : decode prog_1_method_35_code 69 = .ok (.iload_n 3, 1) := by decide +kernel
theorem d_Desk_perform_70 : decode prog_1_method_35_code 70 = .ok (.ldc_w 307, 3) := by decide +kernel
theorem d_Desk_perform_73 : decode prog_1_method_35_code 73 = .ok (.invokevirtual 294, 3) := by decide +kernel
theorem d_Desk_perform_76 : decode prog_1_method_35_code 76 = .ok (.ifCond .eq 9, 3) := by decide +kernel
theorem d_Desk_perform_85 : decode prog_1_method_35_code 85 = .ok (.aload_n 0, 1) := by decide +kernel
theorem d_Desk_perform_86 : decode prog_1_method_35_code 86 = .ok (.getfield 37, 3) := by decide +kernel
theorem d_Desk_perform_89 : decode prog_1_method_35_code 89 = .ok (.iload_n 3, 1) := by decide +kernel
theorem d_Desk_perform_90 : decode prog_1_method_35_code 90 = .ok (.ldc_w 312, 3) := by decide +kernel
theorem d_Desk_perform_93 : decode prog_1_method_35_code 93 = .ok (.invokevirtual 294, 3) := by decide +kernel
theorem d_Desk_perform_96 : decode prog_1_method_35_code 96 = .ok (.ifCond .eq 9, 3) := by decide +kernel
theorem d_Desk_perform_105 : decode prog_1_method_35_code 105 = .ok (.aload_n 0, 1) := by decide +kernel
theorem d_Desk_perform_106 : decode prog_1_method_35_code 106 = .ok (.getfield 37, 3) := by decide +kernel
theorem d_Desk_perform_109 : decode prog_1_method_35_code 109 = .ok (.iload_n 3, 1) := by decide +kernel
theorem d_Desk_perform_110 : decode prog_1_method_35_code 110 = .ok (.ldc_w 317, 3) := by decide +kernel
theorem d_Desk_perform_113 : decode prog_1_method_35_code 113 = .ok (.invokevirtual 294, 3) := by decide +kernel
theorem d_Desk_perform_116 : decode prog_1_method_35_code 116 = .ok (.ifCond .eq 9, 3) := by decide +kernel
theorem d_Desk_perform_125 : decode prog_1_method_35_code 125 = .ok (.aload_n 0, 1) := by decide +kernel
theorem d_Desk_perform_126 : decode prog_1_method_35_code 126 = .ok (.getfield 37, 3) := by decide +kernel
theorem d_Desk_perform_129 : decode prog_1_method_35_code 129 = .ok (.iload_n 3, 1) := by decide +kernel
theorem d_Desk_perform_130 : decode prog_1_method_35_code 130 = .ok (.ldc_w 322, 3) := by decide +kernel
theorem d_Desk_perform_133 : decode prog_1_method_35_code 133 = .ok (.invokevirtual 294, 3) := by decide +kernel
theorem d_Desk_perform_136 : decode prog_1_method_35_code 136 = .ok (.ifCond .eq 9, 3) := by decide +kernel
theorem d_Desk_perform_145 : decode prog_1_method_35_code 145 = .ok (.iconst (-1), 1) := by decide +kernel
theorem d_Desk_perform_146 : decode prog_1_method_35_code 146 = .ok (.ireturn, 1) := by decide +kernel
theorem d_Desk_perform_139 : decode prog_1_method_35_code 139 = .ok (.aload_n 0, 1) := by decide +kernel
theorem d_Desk_perform_140 : decode prog_1_method_35_code 140 = .ok (.aload_n 2, 1) := by decide +kernel
theorem d_Desk_perform_141 : decode prog_1_method_35_code 141 = .ok (.invokevirtual 324, 3) := by decide +kernel
theorem kw_4_150 : (Jvm.Cond.methodLink "CertificateDesk" (324 : Nat) ({ cls := "CertificateDesk", name := "closeAccount", desc := "(LCertificateDesk$Account;)I" } : Jvm.MethodName)) ∈ cd_tbl := tb_4 (List.mem_of_getElem? (i := 150) (by decide +kernel)) (by decide)
theorem kw_4_153 : (Jvm.Cond.code ({ cls := "CertificateDesk", name := "closeAccount", desc := "(LCertificateDesk$Account;)I" } : Jvm.MethodName) prog_1_method_48_code (3 : Nat) (Option.some Jvm.ClassFile.FieldType.int)) ∈ cd_tbl := tb_4 (List.mem_of_getElem? (i := 153) (by decide +kernel)) (by decide)
theorem kw_4_152 : (Jvm.Cond.instanceMethod ({ cls := "CertificateDesk", name := "closeAccount", desc := "(LCertificateDesk$Account;)I" } : Jvm.MethodName)) ∈ cd_tbl := tb_4 (List.mem_of_getElem? (i := 152) (by decide +kernel)) (by decide)
theorem kp_35 : Cond.selects "CertificateDesk" ⟨"CertificateDesk", "closeAccount", "(LCertificateDesk$Account;)I"⟩ ⟨"CertificateDesk", "closeAccount", "(LCertificateDesk$Account;)I"⟩ ∈ cd_tbl := cd_sel (List.mem_of_getElem? (i := 35) (by decide +kernel)) (by decide)
theorem ca_Desk_perform_324 {X : cd_E} : cd_CV X m_Desk_perform m_Desk_closeAccount 324 1 0 := ⟨⟨by decide, kw_4_153, kw_1_1, ⟨by decide, by decide, by decide +kernel⟩, by decide, by decide⟩, ⟨_, rfl, rfl⟩, kw_4_152, kp_35, (Or.inl kw_4_150)⟩
theorem d_Desk_perform_144 : decode prog_1_method_35_code 144 = .ok (.ireturn, 1) := by decide +kernel
theorem d_Desk_perform_119 : decode prog_1_method_35_code 119 = .ok (.aload_n 0, 1) := by decide +kernel
theorem d_Desk_perform_120 : decode prog_1_method_35_code 120 = .ok (.aload_n 2, 1) := by decide +kernel
theorem d_Desk_perform_121 : decode prog_1_method_35_code 121 = .ok (.invokevirtual 319, 3) := by decide +kernel
theorem kw_4_139 : (Jvm.Cond.methodLink "CertificateDesk" (319 : Nat) ({ cls := "CertificateDesk", name := "revokeCertificate", desc := "(LCertificateDesk$Account;)I" } : Jvm.MethodName)) ∈ cd_tbl := tb_4 (List.mem_of_getElem? (i := 139) (by decide +kernel)) (by decide)
theorem kw_4_142 : (Jvm.Cond.code ({ cls := "CertificateDesk", name := "revokeCertificate", desc := "(LCertificateDesk$Account;)I" } : Jvm.MethodName) prog_1_method_47_code (6 : Nat) (Option.some Jvm.ClassFile.FieldType.int)) ∈ cd_tbl := tb_4 (List.mem_of_getElem? (i := 142) (by decide +kernel)) (by decide)
theorem kw_4_141 : (Jvm.Cond.instanceMethod ({ cls := "CertificateDesk", name := "revokeCertificate", desc := "(LCertificateDesk$Account;)I" } : Jvm.MethodName)) ∈ cd_tbl := tb_4 (List.mem_of_getElem? (i := 141) (by decide +kernel)) (by decide)
theorem kp_33 : Cond.selects "CertificateDesk" ⟨"CertificateDesk", "revokeCertificate", "(LCertificateDesk$Account;)I"⟩ ⟨"CertificateDesk", "revokeCertificate", "(LCertificateDesk$Account;)I"⟩ ∈ cd_tbl := cd_sel (List.mem_of_getElem? (i := 33) (by decide +kernel)) (by decide)
theorem ca_Desk_perform_319 {X : cd_E} : cd_CV X m_Desk_perform m_Desk_revokeCertificate 319 1 0 := ⟨⟨by decide, kw_4_142, kw_1_1, ⟨by decide, by decide, by decide +kernel⟩, by decide, by decide⟩, ⟨_, rfl, rfl⟩, kw_4_141, kp_33, (Or.inl kw_4_139)⟩
theorem d_Desk_perform_124 : decode prog_1_method_35_code 124 = .ok (.ireturn, 1) := by decide +kernel
theorem d_Desk_perform_99 : decode prog_1_method_35_code 99 = .ok (.aload_n 0, 1) := by decide +kernel
theorem d_Desk_perform_100 : decode prog_1_method_35_code 100 = .ok (.aload_n 2, 1) := by decide +kernel
theorem d_Desk_perform_101 : decode prog_1_method_35_code 101 = .ok (.invokevirtual 314, 3) := by decide +kernel
theorem kw_4_36 : (Jvm.Cond.methodLink "CertificateDesk" (314 : Nat) ({ cls := "CertificateDesk", name := "finishOrder", desc := "(LCertificateDesk$Account;)I" } : Jvm.MethodName)) ∈ cd_tbl := tb_4 (List.mem_of_getElem? (i := 36) (by decide +kernel)) (by decide)
theorem kw_4_39 : (Jvm.Cond.code ({ cls := "CertificateDesk", name := "finishOrder", desc := "(LCertificateDesk$Account;)I" } : Jvm.MethodName) prog_1_method_43_code (9 : Nat) (Option.some Jvm.ClassFile.FieldType.int)) ∈ cd_tbl := tb_4 (List.mem_of_getElem? (i := 39) (by decide +kernel)) (by decide)
theorem kw_4_38 : (Jvm.Cond.instanceMethod ({ cls := "CertificateDesk", name := "finishOrder", desc := "(LCertificateDesk$Account;)I" } : Jvm.MethodName)) ∈ cd_tbl := tb_4 (List.mem_of_getElem? (i := 38) (by decide +kernel)) (by decide)
theorem kp_25 : Cond.selects "CertificateDesk" ⟨"CertificateDesk", "finishOrder", "(LCertificateDesk$Account;)I"⟩ ⟨"CertificateDesk", "finishOrder", "(LCertificateDesk$Account;)I"⟩ ∈ cd_tbl := cd_sel (List.mem_of_getElem? (i := 25) (by decide +kernel)) (by decide)
theorem ca_Desk_perform_314 {X : cd_E} : cd_CV X m_Desk_perform m_Desk_finishOrder 314 1 0 := ⟨⟨by decide, kw_4_39, kw_1_1, ⟨by decide, by decide, by decide +kernel⟩, by decide, by decide⟩, ⟨_, rfl, rfl⟩, kw_4_38, kp_25, (Or.inl kw_4_36)⟩
theorem d_Desk_perform_104 : decode prog_1_method_35_code 104 = .ok (.ireturn, 1) := by decide +kernel
theorem d_Desk_perform_79 : decode prog_1_method_35_code 79 = .ok (.aload_n 0, 1) := by decide +kernel
theorem d_Desk_perform_80 : decode prog_1_method_35_code 80 = .ok (.aload_n 2, 1) := by decide +kernel
theorem d_Desk_perform_81 : decode prog_1_method_35_code 81 = .ok (.invokevirtual 309, 3) := by decide +kernel
theorem kw_4_18 : (Jvm.Cond.methodLink "CertificateDesk" (309 : Nat) ({ cls := "CertificateDesk", name := "startTrial", desc := "(LCertificateDesk$Account;)I" } : Jvm.MethodName)) ∈ cd_tbl := tb_4 (List.mem_of_getElem? (i := 18) (by decide +kernel)) (by decide)
theorem kw_4_21 : (Jvm.Cond.code ({ cls := "CertificateDesk", name := "startTrial", desc := "(LCertificateDesk$Account;)I" } : Jvm.MethodName) prog_1_method_42_code (5 : Nat) (Option.some Jvm.ClassFile.FieldType.int)) ∈ cd_tbl := tb_4 (List.mem_of_getElem? (i := 21) (by decide +kernel)) (by decide)
theorem kw_4_20 : (Jvm.Cond.instanceMethod ({ cls := "CertificateDesk", name := "startTrial", desc := "(LCertificateDesk$Account;)I" } : Jvm.MethodName)) ∈ cd_tbl := tb_4 (List.mem_of_getElem? (i := 20) (by decide +kernel)) (by decide)
theorem kp_23 : Cond.selects "CertificateDesk" ⟨"CertificateDesk", "startTrial", "(LCertificateDesk$Account;)I"⟩ ⟨"CertificateDesk", "startTrial", "(LCertificateDesk$Account;)I"⟩ ∈ cd_tbl := cd_sel (List.mem_of_getElem? (i := 23) (by decide +kernel)) (by decide)
theorem ca_Desk_perform_309 {X : cd_E} : cd_CV X m_Desk_perform m_Desk_startTrial 309 1 0 := ⟨⟨by decide, kw_4_21, kw_1_1, ⟨by decide, by decide, by decide +kernel⟩, by decide, by decide⟩, ⟨_, rfl, rfl⟩, kw_4_20, kp_23, (Or.inl kw_4_18)⟩
theorem d_Desk_perform_84 : decode prog_1_method_35_code 84 = .ok (.ireturn, 1) := by decide +kernel
theorem d_Desk_perform_59 : decode prog_1_method_35_code 59 = .ok (.aload_n 0, 1) := by decide +kernel
theorem d_Desk_perform_60 : decode prog_1_method_35_code 60 = .ok (.aload_n 2, 1) := by decide +kernel
theorem d_Desk_perform_61 : decode prog_1_method_35_code 61 = .ok (.invokevirtual 303, 3) := by decide +kernel
theorem kw_2_234 : (Jvm.Cond.methodLink "CertificateDesk" (303 : Nat) ({ cls := "CertificateDesk", name := "placeOrder", desc := "(LCertificateDesk$Account;)I" } : Jvm.MethodName)) ∈ cd_tbl := tb_2 (List.mem_of_getElem? (i := 234) (by decide +kernel)) (by decide)
theorem kw_2_237 : (Jvm.Cond.code ({ cls := "CertificateDesk", name := "placeOrder", desc := "(LCertificateDesk$Account;)I" } : Jvm.MethodName) prog_1_method_37_code (7 : Nat) (Option.some Jvm.ClassFile.FieldType.int)) ∈ cd_tbl := tb_2 (List.mem_of_getElem? (i := 237) (by decide +kernel)) (by decide)
theorem kw_2_236 : (Jvm.Cond.instanceMethod ({ cls := "CertificateDesk", name := "placeOrder", desc := "(LCertificateDesk$Account;)I" } : Jvm.MethodName)) ∈ cd_tbl := tb_2 (List.mem_of_getElem? (i := 236) (by decide +kernel)) (by decide)
theorem kp_17 : Cond.selects "CertificateDesk" ⟨"CertificateDesk", "placeOrder", "(LCertificateDesk$Account;)I"⟩ ⟨"CertificateDesk", "placeOrder", "(LCertificateDesk$Account;)I"⟩ ∈ cd_tbl := cd_sel (List.mem_of_getElem? (i := 17) (by decide +kernel)) (by decide)
theorem ca_Desk_perform_303 {X : cd_E} : cd_CV X m_Desk_perform m_Desk_placeOrder 303 1 0 := ⟨⟨by decide, kw_2_237, kw_1_1, ⟨by decide, by decide, by decide +kernel⟩, by decide, by decide⟩, ⟨_, rfl, rfl⟩, kw_2_236, kp_17, (Or.inl kw_2_234)⟩
theorem d_Desk_perform_64 : decode prog_1_method_35_code 64 = .ok (.ireturn, 1) := by decide +kernel
theorem d_Desk_perform_38 : decode prog_1_method_35_code 38 = .ok (.aload_n 0, 1) := by decide +kernel
theorem d_Desk_perform_39 : decode prog_1_method_35_code 39 = .ok (.aload_n 1, 1) := by decide +kernel
theorem d_Desk_perform_40 : decode prog_1_method_35_code 40 = .ok (.aload_n 2, 1) := by decide +kernel
theorem d_Desk_perform_41 : decode prog_1_method_35_code 41 = .ok (.invokevirtual 298, 3) := by decide +kernel
theorem kw_2_123 : (Jvm.Cond.methodLink "CertificateDesk" (298 : Nat) ({ cls := "CertificateDesk", name := "openAccount", desc := "(LCertificateDesk$Key;LCertificateDesk$Account;)I" } : Jvm.MethodName)) ∈ cd_tbl := tb_2 (List.mem_of_getElem? (i := 123) (by decide +kernel)) (by decide)
theorem kw_2_126 : (Jvm.Cond.code ({ cls := "CertificateDesk", name := "openAccount", desc := "(LCertificateDesk$Key;LCertificateDesk$Account;)I" } : Jvm.MethodName) prog_1_method_36_code (5 : Nat) (Option.some Jvm.ClassFile.FieldType.int)) ∈ cd_tbl := tb_2 (List.mem_of_getElem? (i := 126) (by decide +kernel)) (by decide)
theorem kw_2_125 : (Jvm.Cond.instanceMethod ({ cls := "CertificateDesk", name := "openAccount", desc := "(LCertificateDesk$Key;LCertificateDesk$Account;)I" } : Jvm.MethodName)) ∈ cd_tbl := tb_2 (List.mem_of_getElem? (i := 125) (by decide +kernel)) (by decide)
theorem kp_12 : Cond.selects "CertificateDesk" ⟨"CertificateDesk", "openAccount", "(LCertificateDesk$Key;LCertificateDesk$Account;)I"⟩ ⟨"CertificateDesk", "openAccount", "(LCertificateDesk$Key;LCertificateDesk$Account;)I"⟩ ∈ cd_tbl := cd_sel (List.mem_of_getElem? (i := 12) (by decide +kernel)) (by decide)
theorem ca_Desk_perform_298 {X : cd_E} : cd_CV X m_Desk_perform m_Desk_openAccount 298 2 0 := ⟨⟨by decide, kw_2_126, kw_1_1, ⟨by decide, by decide, by decide +kernel⟩, by decide, by decide⟩, ⟨_, rfl, rfl⟩, kw_2_125, kp_12, (Or.inl kw_2_123)⟩
theorem d_Desk_perform_44 : decode prog_1_method_35_code 44 = .ok (.ireturn, 1) := by decide +kernel
theorem d_Desk_perform_10 : decode prog_1_method_35_code 10 = .ok (.iconst (-1), 1) := by decide +kernel
theorem d_Desk_perform_11 : decode prog_1_method_35_code 11 = .ok (.ireturn, 1) := by decide +kernel
theorem g_Desk_perform {X : cd_E} {kc ks : Nat} {h : cd_H} {Q : Option Value → cd_H → Prop} {p1 : Nat} {p2 : Option Nat} (F : cc_ok h) (H : cd_W X m_Not_isObject 0 0 0 [some (.ref 71)] [] h (fun r1 h2 => ∃ x3 : Int32, r1 = some (.int x3) ∧ ((cc_ok h2) ∧ ((((¬ x3 = 0) → (cd_W X m_Not_field 0 0 0 [some (.ref 71), some (.int 0), some (.ref 5), none, none, none, none] [] h2 (fun r6 h7 => ∃ x8 : Int32, r6 = some (.int x8) ∧ ((cc_ok h7) ∧ (cd_W X m_Not_spells 0 0 0 [some (.ref 71), some (.int x8), some (.ref 6), none, none] [] h7 (fun r10 h11 => ∃ x12 : Int32, r10 = some (.int x12) ∧ ((cc_ok h11) ∧ ((((x12 = 0) → (cd_W X m_Not_spells 0 0 0 [some (.ref 71), some (.int x8), some (.ref 7), none, none] [] h11 (fun r15 h16 => ∃ x17 : Int32, r15 = some (.int x17) ∧ ((cc_ok h16) ∧ ((((x17 = 0) → (cd_W X m_Not_spells 0 0 0 [some (.ref 71), some (.int x8), some (.ref 9), none, none] [] h16 (fun r20 h21 => ∃ x22 : Int32, r20 = some (.int x22) ∧ ((cc_ok h21) ∧ ((((x22 = 0) → (cd_W X m_Not_spells 0 0 0 [some (.ref 71), some (.int x8), some (.ref 12), none, none] [] h21 (fun r25 h26 => ∃ x27 : Int32, r25 = some (.int x27) ∧ ((cc_ok h26) ∧ ((((x27 = 0) → (cd_W X m_Not_spells 0 0 0 [some (.ref 71), some (.int x8), some (.ref 15), none, none] [] h26 (fun r30 h31 => ∃ x32 : Int32, r30 = some (.int x32) ∧ ((cc_ok h31) ∧ ((((x32 = 0) → (cd_W X m_Not_spells 0 0 0 [some (.ref 71), some (.int x8), some (.ref 18), none, none] [] h31 (fun r35 h36 => ∃ x37 : Int32, r35 = some (.int x37) ∧ ((cc_ok h36) ∧ ((((x37 = 0) → (Q (some (.int (-1))) h36)) ∧ ((¬ x37 = 0) → (cd_W X m_Desk_closeAccount 0 0 0 [some (.ref 64), some (va_rf p2), none] [] h36 (fun r40 h41 => ∃ x42 : Int32, r40 = some (.int x42) ∧ ((cc_ok h41) ∧ (Q (some (.int x42)) h41))))))))))) ∧ ((¬ x32 = 0) → (cd_W X m_Desk_revokeCertificate 0 0 0 [some (.ref 64), some (va_rf p2), none, none, none, none] [] h31 (fun r44 h45 => ∃ x46 : Int32, r44 = some (.int x46) ∧ ((cc_ok h45) ∧ (Q (some (.int x46)) h45))))))))))) ∧ ((¬ x27 = 0) → (cd_W X m_Desk_finishOrder 4 126 0 [some (.ref 64), some (va_rf p2), none, none, none, none, none, none, none] [] h26 (fun r48 h49 => ∃ x50 : Int32, r48 = some (.int x50) ∧ ((cc_ok h49) ∧ (Q (some (.int x50)) h49))))))))))) ∧ ((¬ x22 = 0) → (cd_W X m_Desk_startTrial 0 0 0 [some (.ref 64), some (va_rf p2), none, none, none] [] h21 (fun r52 h53 => ∃ x54 : Int32, r52 = some (.int x54) ∧ ((cc_ok h53) ∧ (Q (some (.int x54)) h53))))))))))) ∧ ((¬ x17 = 0) → (cd_W X m_Desk_placeOrder 0 0 0 [some (.ref 64), some (va_rf p2), none, none, none, none, none] [] h16 (fun r56 h57 => ∃ x58 : Int32, r56 = some (.int x58) ∧ ((cc_ok h57) ∧ (Q (some (.int x58)) h57))))))))))) ∧ ((¬ x12 = 0) → (cd_W X m_Desk_openAccount 0 0 0 [some (.ref 64), some (.ref p1), some (va_rf p2), none, none] [] h11 (fun r60 h61 => ∃ x62 : Int32, r60 = some (.int x62) ∧ ((cc_ok h61) ∧ (Q (some (.int x62)) h61)))))))))))))) ∧ ((x3 = 0) → (Q (some (.int (-1))) h2))))))) : cd_W X m_Desk_perform (kc + 4) (ks + 126) 0 [some (.ref 64), some (.ref p1), some (va_rf p2), none] [] h Q := by
  refine cd_aload_n (i := 0) (v := .ref 64) d_Desk_perform_0 rfl rfl (cd_isr_ref _) ?_
  refine cd_get (v := .ref 71) d_Desk_perform_1 fl_Desk_37 (cc_k64 F) (congrArg va_rf (cc_r64_3 F)) ?_
  refine cd_callV (kc := (kc + 4)) (ks := (ks + 126)) (kc' := 0) (ks' := 0) (As := []) (S := []) d_Desk_perform_4 ca_Desk_perform_282 (cc_k71 F) rfl (Nat.le_of_ble_eq_true rfl) (Nat.le_of_ble_eq_true rfl) ?_
  refine cd_W.mono (fun r1 h2 H => ?_) H
  obtain ⟨x3, rfl, H⟩ := H
  obtain ⟨F4, H⟩ := H
  show cd_W X m_Desk_perform (kc + 4) (ks + 126) 7 [some (.ref 64), some (.ref p1), some (va_rf p2), none] [.int x3] h2 Q
  refine cd_if_ne (tgt := 12) d_Desk_perform_7 (by decide) (fun t5 => ?_) (fun t5 => ?_)
  · replace H := H.1 t5
    refine cd_aload_n (i := 0) (v := .ref 64) d_Desk_perform_12 rfl rfl (cd_isr_ref _) ?_
    refine cd_get (v := .ref 71) d_Desk_perform_13 fl_Desk_37 (cc_k64 F4) (congrArg va_rf (cc_r64_3 F4)) ?_
    refine cd_iconst (v := 0) d_Desk_perform_16 (by decide) ?_
    refine cd_ldcS d_Desk_perform_17 (tx := "op") (i := 5) (List.mem_of_getElem? (i := 0) rfl) ?_
    refine cd_callV (kc := (kc + 4)) (ks := (ks + 126)) (kc' := 0) (ks' := 0) (As := [.int 0, .ref 5]) (S := []) d_Desk_perform_20 ca_Desk_perform_288 (cc_k71 F4) rfl (Nat.le_of_ble_eq_true rfl) (Nat.le_of_ble_eq_true rfl) ?_
    refine cd_W.mono (fun r6 h7 H => ?_) H
    obtain ⟨x8, rfl, H⟩ := H
    obtain ⟨F9, H⟩ := H
    show cd_W X m_Desk_perform (kc + 4) (ks + 126) 23 [some (.ref 64), some (.ref p1), some (va_rf p2), none] [.int x8] h7 Q
    refine cd_istore_n (i := 3) d_Desk_perform_23 rfl (by decide) ?_
    show cd_W X m_Desk_perform (kc + 4) (ks + 126) 24 [some (.ref 64), some (.ref p1), cd_kl (some (va_rf p2)), some (.int x8)] [] h7 Q
    rw [cd_kl_rf]
    refine cd_aload_n (i := 0) (v := .ref 64) d_Desk_perform_24 rfl rfl (cd_isr_ref _) ?_
    refine cd_get (v := .ref 71) d_Desk_perform_25 fl_Desk_37 (cc_k64 F9) (congrArg va_rf (cc_r64_3 F9)) ?_
    refine cd_iload_n (i := 3) d_Desk_perform_28 rfl rfl ?_
    refine cd_ldcS d_Desk_perform_29 (tx := "new") (i := 6) (List.mem_of_getElem? (i := 1) rfl) ?_
    refine cd_callV (kc := (kc + 4)) (ks := (ks + 126)) (kc' := 0) (ks' := 0) (As := [.int x8, .ref 6]) (S := []) d_Desk_perform_32 ca_Desk_perform_294 (cc_k71 F9) rfl (Nat.le_of_ble_eq_true rfl) (Nat.le_of_ble_eq_true rfl) ?_
    refine cd_W.mono (fun r10 h11 H => ?_) H
    obtain ⟨x12, rfl, H⟩ := H
    obtain ⟨F13, H⟩ := H
    show cd_W X m_Desk_perform (kc + 4) (ks + 126) 35 [some (.ref 64), some (.ref p1), some (va_rf p2), some (.int x8)] [.int x12] h11 Q
    refine cd_if_eq (tgt := 45) d_Desk_perform_35 (by decide) (fun t14 => ?_) (fun t14 => ?_)
    · replace H := H.1 t14
      refine cd_aload_n (i := 0) (v := .ref 64) d_Desk_perform_45 rfl rfl (cd_isr_ref _) ?_
      refine cd_get (v := .ref 71) d_Desk_perform_46 fl_Desk_37 (cc_k64 F13) (congrArg va_rf (cc_r64_3 F13)) ?_
      refine cd_iload_n (i := 3) d_Desk_perform_49 rfl rfl ?_
      refine cd_ldcS d_Desk_perform_50 (tx := "order") (i := 7) (List.mem_of_getElem? (i := 2) rfl) ?_
      refine cd_callV (kc := (kc + 4)) (ks := (ks + 126)) (kc' := 0) (ks' := 0) (As := [.int x8, .ref 7]) (S := []) d_Desk_perform_53 ca_Desk_perform_294 (cc_k71 F13) rfl (Nat.le_of_ble_eq_true rfl) (Nat.le_of_ble_eq_true rfl) ?_
      refine cd_W.mono (fun r15 h16 H => ?_) H
      obtain ⟨x17, rfl, H⟩ := H
      obtain ⟨F18, H⟩ := H
      show cd_W X m_Desk_perform (kc + 4) (ks + 126) 56 [some (.ref 64), some (.ref p1), some (va_rf p2), some (.int x8)] [.int x17] h16 Q
      refine cd_if_eq (tgt := 65) d_Desk_perform_56 (by decide) (fun t19 => ?_) (fun t19 => ?_)
      · replace H := H.1 t19
        refine cd_aload_n (i := 0) (v := .ref 64) d_Desk_perform_65 rfl rfl (cd_isr_ref _) ?_
        refine cd_get (v := .ref 71) d_Desk_perform_66 fl_Desk_37 (cc_k64 F18) (congrArg va_rf (cc_r64_3 F18)) ?_
        refine cd_iload_n (i := 3) d_Desk_perform_69 rfl rfl ?_
        refine cd_ldcS d_Desk_perform_70 (tx := "try") (i := 9) (List.mem_of_getElem? (i := 4) rfl) ?_
        refine cd_callV (kc := (kc + 4)) (ks := (ks + 126)) (kc' := 0) (ks' := 0) (As := [.int x8, .ref 9]) (S := []) d_Desk_perform_73 ca_Desk_perform_294 (cc_k71 F18) rfl (Nat.le_of_ble_eq_true rfl) (Nat.le_of_ble_eq_true rfl) ?_
        refine cd_W.mono (fun r20 h21 H => ?_) H
        obtain ⟨x22, rfl, H⟩ := H
        obtain ⟨F23, H⟩ := H
        show cd_W X m_Desk_perform (kc + 4) (ks + 126) 76 [some (.ref 64), some (.ref p1), some (va_rf p2), some (.int x8)] [.int x22] h21 Q
        refine cd_if_eq (tgt := 85) d_Desk_perform_76 (by decide) (fun t24 => ?_) (fun t24 => ?_)
        · replace H := H.1 t24
          refine cd_aload_n (i := 0) (v := .ref 64) d_Desk_perform_85 rfl rfl (cd_isr_ref _) ?_
          refine cd_get (v := .ref 71) d_Desk_perform_86 fl_Desk_37 (cc_k64 F23) (congrArg va_rf (cc_r64_3 F23)) ?_
          refine cd_iload_n (i := 3) d_Desk_perform_89 rfl rfl ?_
          refine cd_ldcS d_Desk_perform_90 (tx := "finish") (i := 12) (List.mem_of_getElem? (i := 7) rfl) ?_
          refine cd_callV (kc := (kc + 4)) (ks := (ks + 126)) (kc' := 0) (ks' := 0) (As := [.int x8, .ref 12]) (S := []) d_Desk_perform_93 ca_Desk_perform_294 (cc_k71 F23) rfl (Nat.le_of_ble_eq_true rfl) (Nat.le_of_ble_eq_true rfl) ?_
          refine cd_W.mono (fun r25 h26 H => ?_) H
          obtain ⟨x27, rfl, H⟩ := H
          obtain ⟨F28, H⟩ := H
          show cd_W X m_Desk_perform (kc + 4) (ks + 126) 96 [some (.ref 64), some (.ref p1), some (va_rf p2), some (.int x8)] [.int x27] h26 Q
          refine cd_if_eq (tgt := 105) d_Desk_perform_96 (by decide) (fun t29 => ?_) (fun t29 => ?_)
          · replace H := H.1 t29
            refine cd_aload_n (i := 0) (v := .ref 64) d_Desk_perform_105 rfl rfl (cd_isr_ref _) ?_
            refine cd_get (v := .ref 71) d_Desk_perform_106 fl_Desk_37 (cc_k64 F28) (congrArg va_rf (cc_r64_3 F28)) ?_
            refine cd_iload_n (i := 3) d_Desk_perform_109 rfl rfl ?_
            refine cd_ldcS d_Desk_perform_110 (tx := "revoke") (i := 15) (List.mem_of_getElem? (i := 10) rfl) ?_
            refine cd_callV (kc := (kc + 4)) (ks := (ks + 126)) (kc' := 0) (ks' := 0) (As := [.int x8, .ref 15]) (S := []) d_Desk_perform_113 ca_Desk_perform_294 (cc_k71 F28) rfl (Nat.le_of_ble_eq_true rfl) (Nat.le_of_ble_eq_true rfl) ?_
            refine cd_W.mono (fun r30 h31 H => ?_) H
            obtain ⟨x32, rfl, H⟩ := H
            obtain ⟨F33, H⟩ := H
            show cd_W X m_Desk_perform (kc + 4) (ks + 126) 116 [some (.ref 64), some (.ref p1), some (va_rf p2), some (.int x8)] [.int x32] h31 Q
            refine cd_if_eq (tgt := 125) d_Desk_perform_116 (by decide) (fun t34 => ?_) (fun t34 => ?_)
            · replace H := H.1 t34
              refine cd_aload_n (i := 0) (v := .ref 64) d_Desk_perform_125 rfl rfl (cd_isr_ref _) ?_
              refine cd_get (v := .ref 71) d_Desk_perform_126 fl_Desk_37 (cc_k64 F33) (congrArg va_rf (cc_r64_3 F33)) ?_
              refine cd_iload_n (i := 3) d_Desk_perform_129 rfl rfl ?_
              refine cd_ldcS d_Desk_perform_130 (tx := "close") (i := 18) (List.mem_of_getElem? (i := 13) rfl) ?_
              refine cd_callV (kc := (kc + 4)) (ks := (ks + 126)) (kc' := 0) (ks' := 0) (As := [.int x8, .ref 18]) (S := []) d_Desk_perform_133 ca_Desk_perform_294 (cc_k71 F33) rfl (Nat.le_of_ble_eq_true rfl) (Nat.le_of_ble_eq_true rfl) ?_
              refine cd_W.mono (fun r35 h36 H => ?_) H
              obtain ⟨x37, rfl, H⟩ := H
              obtain ⟨F38, H⟩ := H
              show cd_W X m_Desk_perform (kc + 4) (ks + 126) 136 [some (.ref 64), some (.ref p1), some (va_rf p2), some (.int x8)] [.int x37] h36 Q
              refine cd_if_eq (tgt := 145) d_Desk_perform_136 (by decide) (fun t39 => ?_) (fun t39 => ?_)
              · replace H := H.1 t39
                refine cd_iconst (v := (-1)) d_Desk_perform_145 (by decide) ?_
                exact cd_iret d_Desk_perform_146 rfl rfl H
              · replace H := H.2 t39
                refine cd_aload_n (i := 0) (v := .ref 64) d_Desk_perform_139 rfl rfl (cd_isr_ref _) ?_
                refine cd_aload_n (i := 2) (v := va_rf p2) d_Desk_perform_140 rfl rfl (cd_isr_rf _) ?_
                refine cd_callV (kc := (kc + 4)) (ks := (ks + 126)) (kc' := 0) (ks' := 0) (As := [va_rf p2]) (S := []) d_Desk_perform_141 ca_Desk_perform_324 (cc_k64 F38) (by simp only [cd_args, cd_args_rf]; rfl) (by simp only [cd_args, cd_args_rf]; exact Nat.le_of_ble_eq_true rfl) (Nat.le_of_ble_eq_true rfl) ?_
                refine cd_W.mono (fun r40 h41 H => ?_) H
                obtain ⟨x42, rfl, H⟩ := H
                obtain ⟨F43, H⟩ := H
                show cd_W X m_Desk_perform (kc + 4) (ks + 126) 144 [some (.ref 64), some (.ref p1), some (va_rf p2), some (.int x8)] [.int x42] h41 Q
                exact cd_iret d_Desk_perform_144 rfl rfl H
            · replace H := H.2 t34
              refine cd_aload_n (i := 0) (v := .ref 64) d_Desk_perform_119 rfl rfl (cd_isr_ref _) ?_
              refine cd_aload_n (i := 2) (v := va_rf p2) d_Desk_perform_120 rfl rfl (cd_isr_rf _) ?_
              refine cd_callV (kc := (kc + 4)) (ks := (ks + 126)) (kc' := 0) (ks' := 0) (As := [va_rf p2]) (S := []) d_Desk_perform_121 ca_Desk_perform_319 (cc_k64 F33) (by simp only [cd_args, cd_args_rf]; rfl) (by simp only [cd_args, cd_args_rf]; exact Nat.le_of_ble_eq_true rfl) (Nat.le_of_ble_eq_true rfl) ?_
              refine cd_W.mono (fun r44 h45 H => ?_) H
              obtain ⟨x46, rfl, H⟩ := H
              obtain ⟨F47, H⟩ := H
              show cd_W X m_Desk_perform (kc + 4) (ks + 126) 124 [some (.ref 64), some (.ref p1), some (va_rf p2), some (.int x8)] [.int x46] h45 Q
              exact cd_iret d_Desk_perform_124 rfl rfl H
          · replace H := H.2 t29
            refine cd_aload_n (i := 0) (v := .ref 64) d_Desk_perform_99 rfl rfl (cd_isr_ref _) ?_
            refine cd_aload_n (i := 2) (v := va_rf p2) d_Desk_perform_100 rfl rfl (cd_isr_rf _) ?_
            refine cd_callV (kc := (kc + 0)) (ks := (ks + 0)) (kc' := 4) (ks' := 126) (As := [va_rf p2]) (S := []) d_Desk_perform_101 ca_Desk_perform_314 (cc_k64 F28) (by simp only [cd_args, cd_args_rf]; rfl) (by simp only [cd_args, cd_args_rf]; exact Nat.le_of_ble_eq_true rfl) (Nat.le_of_ble_eq_true rfl) ?_
            refine cd_W.mono (fun r48 h49 H => ?_) H
            obtain ⟨x50, rfl, H⟩ := H
            obtain ⟨F51, H⟩ := H
            show cd_W X m_Desk_perform (kc + 0) (ks + 0) 104 [some (.ref 64), some (.ref p1), some (va_rf p2), some (.int x8)] [.int x50] h49 Q
            exact cd_iret d_Desk_perform_104 rfl rfl H
        · replace H := H.2 t24
          refine cd_aload_n (i := 0) (v := .ref 64) d_Desk_perform_79 rfl rfl (cd_isr_ref _) ?_
          refine cd_aload_n (i := 2) (v := va_rf p2) d_Desk_perform_80 rfl rfl (cd_isr_rf _) ?_
          refine cd_callV (kc := (kc + 4)) (ks := (ks + 126)) (kc' := 0) (ks' := 0) (As := [va_rf p2]) (S := []) d_Desk_perform_81 ca_Desk_perform_309 (cc_k64 F23) (by simp only [cd_args, cd_args_rf]; rfl) (by simp only [cd_args, cd_args_rf]; exact Nat.le_of_ble_eq_true rfl) (Nat.le_of_ble_eq_true rfl) ?_
          refine cd_W.mono (fun r52 h53 H => ?_) H
          obtain ⟨x54, rfl, H⟩ := H
          obtain ⟨F55, H⟩ := H
          show cd_W X m_Desk_perform (kc + 4) (ks + 126) 84 [some (.ref 64), some (.ref p1), some (va_rf p2), some (.int x8)] [.int x54] h53 Q
          exact cd_iret d_Desk_perform_84 rfl rfl H
      · replace H := H.2 t19
        refine cd_aload_n (i := 0) (v := .ref 64) d_Desk_perform_59 rfl rfl (cd_isr_ref _) ?_
        refine cd_aload_n (i := 2) (v := va_rf p2) d_Desk_perform_60 rfl rfl (cd_isr_rf _) ?_
        refine cd_callV (kc := (kc + 4)) (ks := (ks + 126)) (kc' := 0) (ks' := 0) (As := [va_rf p2]) (S := []) d_Desk_perform_61 ca_Desk_perform_303 (cc_k64 F18) (by simp only [cd_args, cd_args_rf]; rfl) (by simp only [cd_args, cd_args_rf]; exact Nat.le_of_ble_eq_true rfl) (Nat.le_of_ble_eq_true rfl) ?_
        refine cd_W.mono (fun r56 h57 H => ?_) H
        obtain ⟨x58, rfl, H⟩ := H
        obtain ⟨F59, H⟩ := H
        show cd_W X m_Desk_perform (kc + 4) (ks + 126) 64 [some (.ref 64), some (.ref p1), some (va_rf p2), some (.int x8)] [.int x58] h57 Q
        exact cd_iret d_Desk_perform_64 rfl rfl H
    · replace H := H.2 t14
      refine cd_aload_n (i := 0) (v := .ref 64) d_Desk_perform_38 rfl rfl (cd_isr_ref _) ?_
      refine cd_aload_n (i := 1) (v := .ref p1) d_Desk_perform_39 rfl rfl (cd_isr_ref _) ?_
      refine cd_aload_n (i := 2) (v := va_rf p2) d_Desk_perform_40 rfl rfl (cd_isr_rf _) ?_
      refine cd_callV (kc := (kc + 4)) (ks := (ks + 126)) (kc' := 0) (ks' := 0) (As := [.ref p1, va_rf p2]) (S := []) d_Desk_perform_41 ca_Desk_perform_298 (cc_k64 F13) (by simp only [cd_args, cd_args_rf]; rfl) (by simp only [cd_args, cd_args_rf]; exact Nat.le_of_ble_eq_true rfl) (Nat.le_of_ble_eq_true rfl) ?_
      refine cd_W.mono (fun r60 h61 H => ?_) H
      obtain ⟨x62, rfl, H⟩ := H
      obtain ⟨F63, H⟩ := H
      show cd_W X m_Desk_perform (kc + 4) (ks + 126) 44 [some (.ref 64), some (.ref p1), some (va_rf p2), some (.int x8)] [.int x62] h61 Q
      exact cd_iret d_Desk_perform_44 rfl rfl H
  · replace H := H.2 t5
    refine cd_iconst (v := (-1)) d_Desk_perform_10 (by decide) ?_
    exact cd_iret d_Desk_perform_11 rfl rfl H

abbrev m_Desk_write : cd_M := (⟨"CertificateDesk", "write", "(C)Z"⟩, prog_1_method_2_code, 2, some .boolean, 2, 41)
theorem d_Desk_write_0 : decode prog_1_method_2_code 0 = .ok (.aload_n 0, 1) := by decide +kernel
theorem d_Desk_write_1 : decode prog_1_method_2_code 1 = .ok (.getfield 37, 3) := by decide +kernel
theorem d_Desk_write_4 : decode prog_1_method_2_code 4 = .ok (.iload_n 1, 1) := by decide +kernel
theorem d_Desk_write_5 : decode prog_1_method_2_code 5 = .ok (.invokevirtual 90, 3) := by decide +kernel
theorem kw_1_189 : (Jvm.Cond.methodLink "CertificateDesk" (90 : Nat) ({ cls := "CertificateDesk$Notation", name := "append", desc := "(C)Z" } : Jvm.MethodName)) ∈ cd_tbl := tb_1 (List.mem_of_getElem? (i := 189) (by decide +kernel)) (by decide)
theorem kw_1_192 : (Jvm.Cond.code ({ cls := "CertificateDesk$Notation", name := "append", desc := "(C)Z" } : Jvm.MethodName) prog_9_method_2_code (2 : Nat) (Option.some Jvm.ClassFile.FieldType.boolean)) ∈ cd_tbl := tb_1 (List.mem_of_getElem? (i := 192) (by decide +kernel)) (by decide)
theorem kw_1_190 : (Jvm.Cond.instanceMethod ({ cls := "CertificateDesk$Notation", name := "append", desc := "(C)Z" } : Jvm.MethodName)) ∈ cd_tbl := tb_1 (List.mem_of_getElem? (i := 190) (by decide +kernel)) (by decide)
theorem kw_1_191 : (Jvm.Cond.selects "CertificateDesk$Notation" ({ cls := "CertificateDesk$Notation", name := "append", desc := "(C)Z" } : Jvm.MethodName) ({ cls := "CertificateDesk$Notation", name := "append", desc := "(C)Z" } : Jvm.MethodName)) ∈ cd_tbl := tb_1 (List.mem_of_getElem? (i := 191) (by decide +kernel)) (by decide)
theorem ca_Desk_write_90 {X : cd_E} : cd_CV X m_Desk_write m_Not_append 90 1 6 := ⟨⟨by decide, kw_1_192, kw_1_3, ⟨by decide, by decide, by decide +kernel⟩, by decide, by decide⟩, ⟨_, rfl, rfl⟩, kw_1_190, kw_1_191, (Or.inl kw_1_189)⟩
theorem d_Desk_write_8 : decode prog_1_method_2_code 8 = .ok (.ireturn, 1) := by decide +kernel
theorem g_Desk_write {X : cd_E} {kc ks : Nat} {h : cd_H} {Q : Option Value → cd_H → Prop} {p1 : Int32} (F : cc_ok h) (H : cd_W X m_Not_append 0 0 0 [some (.ref 71), some (.int p1)] [] h (fun r1 h2 => ∃ x3 : Int32, r1 = some (.int x3) ∧ ((cc_ok h2) ∧ ((x3 = 0 ∨ x3 = 1) ∧ (Q (some (.int x3)) h2))))) : cd_W X m_Desk_write kc ks 0 [some (.ref 64), some (.int p1)] [] h Q := by
  refine cd_aload_n (i := 0) (v := .ref 64) d_Desk_write_0 rfl rfl (cd_isr_ref _) ?_
  refine cd_get (v := .ref 71) d_Desk_write_1 fl_Desk_37 (cc_k64 F) (congrArg va_rf (cc_r64_3 F)) ?_
  refine cd_iload_n (i := 1) d_Desk_write_4 rfl rfl ?_
  refine cd_callV (kc := kc) (ks := ks) (kc' := 0) (ks' := 0) (As := [.int p1]) (S := []) d_Desk_write_5 ca_Desk_write_90 (cc_k71 F) rfl (Nat.le_of_ble_eq_true rfl) (Nat.le_of_ble_eq_true rfl) ?_
  refine cd_W.mono (fun r1 h2 H => ?_) H
  obtain ⟨x3, rfl, H⟩ := H
  obtain ⟨F4, H⟩ := H
  show cd_W X m_Desk_write kc ks 8 [some (.ref 64), some (.int p1)] [.int x3] h2 Q
  obtain ⟨c5, H⟩ := H
  exact cd_iret d_Desk_write_8 rfl (cd_nz c5) H

abbrev m_Desk_nonce : cd_M := (⟨"CertificateDesk", "nonce", "()I"⟩, prog_1_method_3_code, 1, some .int, 2, 41)
theorem d_Desk_nonce_0 : decode prog_1_method_3_code 0 = .ok (.aload_n 0, 1) := by decide +kernel
theorem d_Desk_nonce_1 : decode prog_1_method_3_code 1 = .ok (.getfield 48, 3) := by decide +kernel
theorem d_Desk_nonce_4 : decode prog_1_method_3_code 4 = .ok (.invokevirtual 94, 3) := by decide +kernel
theorem kw_1_197 : (Jvm.Cond.methodLink "CertificateDesk" (94 : Nat) ({ cls := "CertificateDesk$Nonces", name := "give", desc := "()I" } : Jvm.MethodName)) ∈ cd_tbl := tb_1 (List.mem_of_getElem? (i := 197) (by decide +kernel)) (by decide)
theorem kw_1_200 : (Jvm.Cond.code ({ cls := "CertificateDesk$Nonces", name := "give", desc := "()I" } : Jvm.MethodName) prog_8_method_2_code (2 : Nat) (Option.some Jvm.ClassFile.FieldType.int)) ∈ cd_tbl := tb_1 (List.mem_of_getElem? (i := 200) (by decide +kernel)) (by decide)
theorem kw_1_198 : (Jvm.Cond.instanceMethod ({ cls := "CertificateDesk$Nonces", name := "give", desc := "()I" } : Jvm.MethodName)) ∈ cd_tbl := tb_1 (List.mem_of_getElem? (i := 198) (by decide +kernel)) (by decide)
theorem kw_1_199 : (Jvm.Cond.selects "CertificateDesk$Nonces" ({ cls := "CertificateDesk$Nonces", name := "give", desc := "()I" } : Jvm.MethodName) ({ cls := "CertificateDesk$Nonces", name := "give", desc := "()I" } : Jvm.MethodName)) ∈ cd_tbl := tb_1 (List.mem_of_getElem? (i := 199) (by decide +kernel)) (by decide)
theorem ca_Desk_nonce_94 {X : cd_E} : cd_CV X m_Desk_nonce m_Non_give 94 0 5 := ⟨⟨by decide, kw_1_200, kw_1_4, ⟨by decide, by decide, by decide +kernel⟩, by decide, by decide⟩, ⟨_, rfl, rfl⟩, kw_1_198, kw_1_199, (Or.inl kw_1_197)⟩
theorem d_Desk_nonce_7 : decode prog_1_method_3_code 7 = .ok (.ireturn, 1) := by decide +kernel
theorem g_Desk_nonce {X : cd_E} {kc ks : Nat} {h : cd_H} {Q : Option Value → cd_H → Prop}  (F : cc_ok h) (H : cd_W X m_Non_give 0 0 0 [some (.ref 74), none] [] h (fun r1 h2 => ∃ x3 : Int32, r1 = some (.int x3) ∧ ((cc_ok h2) ∧ (Q (some (.int x3)) h2)))) : cd_W X m_Desk_nonce kc ks 0 [some (.ref 64)] [] h Q := by
  refine cd_aload_n (i := 0) (v := .ref 64) d_Desk_nonce_0 rfl rfl (cd_isr_ref _) ?_
  refine cd_get (v := .ref 74) d_Desk_nonce_1 fl_Desk_48 (cc_k64 F) (congrArg va_rf (cc_r64_5 F)) ?_
  refine cd_callV (kc := kc) (ks := ks) (kc' := 0) (ks' := 0) (As := []) (S := []) d_Desk_nonce_4 ca_Desk_nonce_94 (cc_k74 F) rfl (Nat.le_of_ble_eq_true rfl) (Nat.le_of_ble_eq_true rfl) ?_
  refine cd_W.mono (fun r1 h2 H => ?_) H
  obtain ⟨x3, rfl, H⟩ := H
  obtain ⟨F4, H⟩ := H
  show cd_W X m_Desk_nonce kc ks 7 [some (.ref 64)] [.int x3] h2 Q
  exact cd_iret d_Desk_nonce_7 rfl rfl H

abbrev m_Desk_request : cd_M := (⟨"CertificateDesk", "request", "(IIII)I"⟩, prog_1_method_4_code, 7, some .int, 32, 1599)
theorem d_Desk_request_0 : decode prog_1_method_4_code 0 = .ok (.aload_n 0, 1) := by decide +kernel
theorem d_Desk_request_1 : decode prog_1_method_4_code 1 = .ok (.iload_n 1, 1) := by decide +kernel
theorem d_Desk_request_2 : decode prog_1_method_4_code 2 = .ok (.invokevirtual 98, 3) := by decide +kernel
theorem kw_1_205 : (Jvm.Cond.methodLink "CertificateDesk" (98 : Nat) ({ cls := "CertificateDesk", name := "clientKey", desc := "(I)LCertificateDesk$Key;" } : Jvm.MethodName)) ∈ cd_tbl := tb_1 (List.mem_of_getElem? (i := 205) (by decide +kernel)) (by decide)
theorem kw_1_208 : (Jvm.Cond.code ({ cls := "CertificateDesk", name := "clientKey", desc := "(I)LCertificateDesk$Key;" } : Jvm.MethodName) prog_1_method_21_code (2 : Nat) (Option.some (Jvm.ClassFile.FieldType.object "CertificateDesk$Key"))) ∈ cd_tbl := tb_1 (List.mem_of_getElem? (i := 208) (by decide +kernel)) (by decide)
theorem kw_1_207 : (Jvm.Cond.instanceMethod ({ cls := "CertificateDesk", name := "clientKey", desc := "(I)LCertificateDesk$Key;" } : Jvm.MethodName)) ∈ cd_tbl := tb_1 (List.mem_of_getElem? (i := 207) (by decide +kernel)) (by decide)
theorem kp_0 : Cond.selects "CertificateDesk" ⟨"CertificateDesk", "clientKey", "(I)LCertificateDesk$Key;"⟩ ⟨"CertificateDesk", "clientKey", "(I)LCertificateDesk$Key;"⟩ ∈ cd_tbl := cd_sel (List.mem_of_getElem? (i := 0) (by decide +kernel)) (by decide)
theorem ca_Desk_request_98 {X : cd_E} : cd_CV X m_Desk_request m_Desk_clientKey 98 1 0 := ⟨⟨by decide, kw_1_208, kw_1_1, ⟨by decide, by decide, by decide +kernel⟩, by decide, by decide⟩, ⟨_, rfl, rfl⟩, kw_1_207, kp_0, (Or.inl kw_1_205)⟩
theorem d_Desk_request_5 : decode prog_1_method_4_code 5 = .ok (.astore 5, 2) := by decide +kernel
theorem d_Desk_request_7 : decode prog_1_method_4_code 7 = .ok (.bipush (-7), 2) := by decide +kernel
theorem d_Desk_request_9 : decode prog_1_method_4_code 9 = .ok (.istore 6, 2) := by decide +kernel
theorem d_Desk_request_11 : decode prog_1_method_4_code 11 = .ok (.aload 5, 2) := by decide +kernel
theorem d_Desk_request_13 : decode prog_1_method_4_code 13 = .ok (.ifnull 33, 3) := by decide +kernel
theorem d_Desk_request_46 : decode prog_1_method_4_code 46 = .ok (.aload_n 0, 1) := by decide +kernel
theorem d_Desk_request_47 : decode prog_1_method_4_code 47 = .ok (.getfield 37, 3) := by decide +kernel
theorem d_Desk_request_50 : decode prog_1_method_4_code 50 = .ok (.invokevirtual 114, 3) := by decide +kernel
theorem kw_4_154 : (Jvm.Cond.methodLink "CertificateDesk" (114 : Nat) ({ cls := "CertificateDesk$Notation", name := "clear", desc := "()V" } : Jvm.MethodName)) ∈ cd_tbl := tb_4 (List.mem_of_getElem? (i := 154) (by decide +kernel)) (by decide)
theorem kw_4_157 : (Jvm.Cond.code ({ cls := "CertificateDesk$Notation", name := "clear", desc := "()V" } : Jvm.MethodName) prog_9_method_3_code (1 : Nat) (Option.none : Option Jvm.ClassFile.FieldType)) ∈ cd_tbl := tb_4 (List.mem_of_getElem? (i := 157) (by decide +kernel)) (by decide)
theorem kw_4_155 : (Jvm.Cond.instanceMethod ({ cls := "CertificateDesk$Notation", name := "clear", desc := "()V" } : Jvm.MethodName)) ∈ cd_tbl := tb_4 (List.mem_of_getElem? (i := 155) (by decide +kernel)) (by decide)
theorem kw_4_156 : (Jvm.Cond.selects "CertificateDesk$Notation" ({ cls := "CertificateDesk$Notation", name := "clear", desc := "()V" } : Jvm.MethodName) ({ cls := "CertificateDesk$Notation", name := "clear", desc := "()V" } : Jvm.MethodName)) ∈ cd_tbl := tb_4 (List.mem_of_getElem? (i := 156) (by decide +kernel)) (by decide)
theorem ca_Desk_request_114 {X : cd_E} : cd_CV X m_Desk_request m_Not_clear 114 0 6 := ⟨⟨by decide, kw_4_157, kw_1_3, ⟨by decide, by decide, by decide +kernel⟩, by decide, by decide⟩, ⟨_, rfl, rfl⟩, kw_4_155, kw_4_156, (Or.inl kw_4_154)⟩
theorem d_Desk_request_53 : decode prog_1_method_4_code 53 = .ok (.iload 6, 2) := by decide +kernel
theorem d_Desk_request_55 : decode prog_1_method_4_code 55 = .ok (.ireturn, 1) := by decide +kernel
theorem d_Desk_request_16 : decode prog_1_method_4_code 16 = .ok (.aload_n 0, 1) := by decide +kernel
theorem d_Desk_request_17 : decode prog_1_method_4_code 17 = .ok (.aload 5, 2) := by decide +kernel
theorem d_Desk_request_19 : decode prog_1_method_4_code 19 = .ok (.iload_n 2, 1) := by decide +kernel
theorem d_Desk_request_20 : decode prog_1_method_4_code 20 = .ok (.iload_n 3, 1) := by decide +kernel
theorem d_Desk_request_21 : decode prog_1_method_4_code 21 = .ok (.iload 4, 2) := by decide +kernel
theorem d_Desk_request_23 : decode prog_1_method_4_code 23 = .ok (.invokevirtual 102, 3) := by decide +kernel
theorem kw_1_209 : (Jvm.Cond.methodLink "CertificateDesk" (102 : Nat) ({ cls := "CertificateDesk", name := "admit", desc := "(LCertificateDesk$Key;III)I" } : Jvm.MethodName)) ∈ cd_tbl := tb_1 (List.mem_of_getElem? (i := 209) (by decide +kernel)) (by decide)
theorem kw_1_212 : (Jvm.Cond.code ({ cls := "CertificateDesk", name := "admit", desc := "(LCertificateDesk$Key;III)I" } : Jvm.MethodName) prog_1_method_32_code (7 : Nat) (Option.some Jvm.ClassFile.FieldType.int)) ∈ cd_tbl := tb_1 (List.mem_of_getElem? (i := 212) (by decide +kernel)) (by decide)
theorem kw_1_211 : (Jvm.Cond.instanceMethod ({ cls := "CertificateDesk", name := "admit", desc := "(LCertificateDesk$Key;III)I" } : Jvm.MethodName)) ∈ cd_tbl := tb_1 (List.mem_of_getElem? (i := 211) (by decide +kernel)) (by decide)
theorem kp_1 : Cond.selects "CertificateDesk" ⟨"CertificateDesk", "admit", "(LCertificateDesk$Key;III)I"⟩ ⟨"CertificateDesk", "admit", "(LCertificateDesk$Key;III)I"⟩ ∈ cd_tbl := cd_sel (List.mem_of_getElem? (i := 1) (by decide +kernel)) (by decide)
theorem ca_Desk_request_102 {X : cd_E} : cd_CV X m_Desk_request m_Desk_admit 102 4 0 := ⟨⟨by decide, kw_1_212, kw_1_1, ⟨by decide, by decide, by decide +kernel⟩, by decide, by decide⟩, ⟨_, rfl, rfl⟩, kw_1_211, kp_1, (Or.inl kw_1_209)⟩
theorem d_Desk_request_26 : decode prog_1_method_4_code 26 = .ok (.istore 6, 2) := by decide +kernel
theorem d_Desk_request_28 : decode prog_1_method_4_code 28 = .ok (.iload 6, 2) := by decide +kernel
theorem d_Desk_request_30 : decode prog_1_method_4_code 30 = .ok (.ifCond .ne 16, 3) := by decide +kernel
theorem d_Desk_request_33 : decode prog_1_method_4_code 33 = .ok (.aload_n 0, 1) := by decide +kernel
theorem d_Desk_request_34 : decode prog_1_method_4_code 34 = .ok (.aload 5, 2) := by decide +kernel
theorem d_Desk_request_36 : decode prog_1_method_4_code 36 = .ok (.aload_n 0, 1) := by decide +kernel
theorem d_Desk_request_37 : decode prog_1_method_4_code 37 = .ok (.iload_n 3, 1) := by decide +kernel
theorem d_Desk_request_38 : decode prog_1_method_4_code 38 = .ok (.invokevirtual 106, 3) := by decide +kernel
theorem ca_Desk_request_106 {X : cd_E} : cd_CV X m_Desk_request m_Desk_accountAt 106 1 0 := ⟨⟨by decide, kw_2_7, kw_1_1, ⟨by decide, by decide, by decide +kernel⟩, by decide, by decide⟩, ⟨_, rfl, rfl⟩, kw_2_6, kp_4, (Or.inl kw_2_4)⟩
theorem d_Desk_request_41 : decode prog_1_method_4_code 41 = .ok (.invokevirtual 110, 3) := by decide +kernel
theorem kw_2_34 : (Jvm.Cond.methodLink "CertificateDesk" (110 : Nat) ({ cls := "CertificateDesk", name := "perform", desc := "(LCertificateDesk$Key;LCertificateDesk$Account;)I" } : Jvm.MethodName)) ∈ cd_tbl := tb_2 (List.mem_of_getElem? (i := 34) (by decide +kernel)) (by decide)
theorem kw_2_37 : (Jvm.Cond.code ({ cls := "CertificateDesk", name := "perform", desc := "(LCertificateDesk$Key;LCertificateDesk$Account;)I" } : Jvm.MethodName) prog_1_method_35_code (4 : Nat) (Option.some Jvm.ClassFile.FieldType.int)) ∈ cd_tbl := tb_2 (List.mem_of_getElem? (i := 37) (by decide +kernel)) (by decide)
theorem kw_2_36 : (Jvm.Cond.instanceMethod ({ cls := "CertificateDesk", name := "perform", desc := "(LCertificateDesk$Key;LCertificateDesk$Account;)I" } : Jvm.MethodName)) ∈ cd_tbl := tb_2 (List.mem_of_getElem? (i := 36) (by decide +kernel)) (by decide)
theorem kp_5 : Cond.selects "CertificateDesk" ⟨"CertificateDesk", "perform", "(LCertificateDesk$Key;LCertificateDesk$Account;)I"⟩ ⟨"CertificateDesk", "perform", "(LCertificateDesk$Key;LCertificateDesk$Account;)I"⟩ ∈ cd_tbl := cd_sel (List.mem_of_getElem? (i := 5) (by decide +kernel)) (by decide)
theorem ca_Desk_request_110 {X : cd_E} : cd_CV X m_Desk_request m_Desk_perform 110 2 0 := ⟨⟨by decide, kw_2_37, kw_1_1, ⟨by decide, by decide, by decide +kernel⟩, by decide, by decide⟩, ⟨_, rfl, rfl⟩, kw_2_36, kp_5, (Or.inl kw_2_34)⟩
theorem d_Desk_request_44 : decode prog_1_method_4_code 44 = .ok (.istore 6, 2) := by decide +kernel
theorem g_Desk_request {X : cd_E} {kc ks : Nat} {h : cd_H} {Q : Option Value → cd_H → Prop} {p1 : Int32} {p2 : Int32} {p3 : Int32} {p4 : Int32} (F : cc_ok h) (H : cd_W X m_Desk_clientKey 0 0 0 [some (.ref 64), some (.int p1)] [] h (fun r1 h2 => ∃ o3 : Option Nat, r1 = some (va_rf o3) ∧ ((cc_ok h2) ∧ ((((o3 = none) → (cd_W X m_Not_clear 0 0 0 [some (.ref 71)] [] h2 (fun r7 h8 => (r7 = none) ∧ ((cc_ok h8) ∧ (Q (some (.int (-7))) h8))))) ∧ (∀ b6 : Nat, o3 = some b6 → (cd_W X m_Desk_admit 0 0 0 [some (.ref 64), some (.ref b6), some (.int p2), some (.int p3), some (.int p4), none, none] [] h2 (fun r10 h11 => ∃ x12 : Int32, r10 = some (.int x12) ∧ ((cc_ok h11) ∧ ((((¬ x12 = 0) → (cd_W X m_Not_clear 0 0 0 [some (.ref 71)] [] h11 (fun r15 h16 => (r15 = none) ∧ ((cc_ok h16) ∧ (Q (some (.int x12)) h16))))) ∧ ((x12 = 0) → (cd_W X m_Desk_accountAt 0 0 0 [some (.ref 64), some (.int p3)] [] h11 (fun r18 h19 => ∃ o20 : Option Nat, r18 = some (va_rf o20) ∧ ((cc_ok h19) ∧ (cd_W X m_Desk_perform 4 126 0 [some (.ref 64), some (.ref b6), some (va_rf o20), none] [] h19 (fun r22 h23 => ∃ x24 : Int32, r22 = some (.int x24) ∧ ((cc_ok h23) ∧ (cd_W X m_Not_clear 0 0 0 [some (.ref 71)] [] h23 (fun r26 h27 => (r26 = none) ∧ ((cc_ok h27) ∧ (Q (some (.int x24)) h27)))))))))))))))))))))) : cd_W X m_Desk_request (kc + 4) (ks + 126) 0 [some (.ref 64), some (.int p1), some (.int p2), some (.int p3), some (.int p4), none, none] [] h Q := by
  refine cd_aload_n (i := 0) (v := .ref 64) d_Desk_request_0 rfl rfl (cd_isr_ref _) ?_
  refine cd_iload_n (i := 1) d_Desk_request_1 rfl rfl ?_
  refine cd_callV (kc := (kc + 4)) (ks := (ks + 126)) (kc' := 0) (ks' := 0) (As := [.int p1]) (S := []) d_Desk_request_2 ca_Desk_request_98 (cc_k64 F) rfl (Nat.le_of_ble_eq_true rfl) (Nat.le_of_ble_eq_true rfl) ?_
  refine cd_W.mono (fun r1 h2 H => ?_) H
  obtain ⟨o3, rfl, H⟩ := H
  obtain ⟨F4, H⟩ := H
  show cd_W X m_Desk_request (kc + 4) (ks + 126) 5 [some (.ref 64), some (.int p1), some (.int p2), some (.int p3), some (.int p4), none, none] [va_rf o3] h2 Q
  refine cd_astore (i := 5) d_Desk_request_5 (by decide) (cd_isr_rf _) ?_
  show cd_W X m_Desk_request (kc + 4) (ks + 126) 7 [some (.ref 64), some (.int p1), some (.int p2), some (.int p3), some (.int p4), some (va_rf o3), none] [] h2 Q
  refine cd_bipush (v := (-7)) d_Desk_request_7 (by decide) ?_
  refine cd_istore (i := 6) d_Desk_request_9 (by decide) ?_
  show cd_W X m_Desk_request (kc + 4) (ks + 126) 11 [some (.ref 64), some (.int p1), some (.int p2), some (.int p3), some (.int p4), cd_kl (some (va_rf o3)), some (.int (-7))] [] h2 Q
  rw [cd_kl_rf]
  refine cd_aload (i := 5) (v := va_rf o3) d_Desk_request_11 rfl (cd_isr_rf _) ?_
  refine cd_ifnull (r := o3) (tgt := 46) d_Desk_request_13 (by decide) (fun t5 => ?_) (fun b6 t5 => ?_)
  · replace H := H.1 t5
    rw [cd_rfn t5]
    refine cd_aload_n (i := 0) (v := .ref 64) d_Desk_request_46 rfl rfl (cd_isr_ref _) ?_
    refine cd_get (v := .ref 71) d_Desk_request_47 fl_Desk_37 (cc_k64 F4) (congrArg va_rf (cc_r64_3 F4)) ?_
    refine cd_callV (kc := (kc + 4)) (ks := (ks + 126)) (kc' := 0) (ks' := 0) (As := []) (S := []) d_Desk_request_50 ca_Desk_request_114 (cc_k71 F4) rfl (Nat.le_of_ble_eq_true rfl) (Nat.le_of_ble_eq_true rfl) ?_
    refine cd_W.mono (fun r7 h8 H => ?_) H
    obtain ⟨rfl, H⟩ := H
    obtain ⟨F9, H⟩ := H
    show cd_W X m_Desk_request (kc + 4) (ks + 126) 53 [some (.ref 64), some (.int p1), some (.int p2), some (.int p3), some (.int p4), some (.null), some (.int (-7))] [] h8 Q
    refine cd_iload (i := 6) d_Desk_request_53 rfl ?_
    exact cd_iret d_Desk_request_55 rfl rfl H
  · replace H := H.2 b6 t5
    rw [cd_rfs t5]
    refine cd_aload_n (i := 0) (v := .ref 64) d_Desk_request_16 rfl rfl (cd_isr_ref _) ?_
    refine cd_aload (i := 5) (v := .ref b6) d_Desk_request_17 rfl (cd_isr_ref _) ?_
    refine cd_iload_n (i := 2) d_Desk_request_19 rfl rfl ?_
    refine cd_iload_n (i := 3) d_Desk_request_20 rfl rfl ?_
    refine cd_iload (i := 4) d_Desk_request_21 rfl ?_
    refine cd_callV (kc := (kc + 4)) (ks := (ks + 126)) (kc' := 0) (ks' := 0) (As := [.ref b6, .int p2, .int p3, .int p4]) (S := []) d_Desk_request_23 ca_Desk_request_102 (cc_k64 F4) rfl (Nat.le_of_ble_eq_true rfl) (Nat.le_of_ble_eq_true rfl) ?_
    refine cd_W.mono (fun r10 h11 H => ?_) H
    obtain ⟨x12, rfl, H⟩ := H
    obtain ⟨F13, H⟩ := H
    show cd_W X m_Desk_request (kc + 4) (ks + 126) 26 [some (.ref 64), some (.int p1), some (.int p2), some (.int p3), some (.int p4), some (.ref b6), some (.int (-7))] [.int x12] h11 Q
    refine cd_istore (i := 6) d_Desk_request_26 (by decide) ?_
    show cd_W X m_Desk_request (kc + 4) (ks + 126) 28 [some (.ref 64), some (.int p1), some (.int p2), some (.int p3), some (.int p4), some (.ref b6), some (.int x12)] [] h11 Q
    refine cd_iload (i := 6) d_Desk_request_28 rfl ?_
    refine cd_if_ne (tgt := 46) d_Desk_request_30 (by decide) (fun t14 => ?_) (fun t14 => ?_)
    · replace H := H.1 t14
      refine cd_aload_n (i := 0) (v := .ref 64) d_Desk_request_46 rfl rfl (cd_isr_ref _) ?_
      refine cd_get (v := .ref 71) d_Desk_request_47 fl_Desk_37 (cc_k64 F13) (congrArg va_rf (cc_r64_3 F13)) ?_
      refine cd_callV (kc := (kc + 4)) (ks := (ks + 126)) (kc' := 0) (ks' := 0) (As := []) (S := []) d_Desk_request_50 ca_Desk_request_114 (cc_k71 F13) rfl (Nat.le_of_ble_eq_true rfl) (Nat.le_of_ble_eq_true rfl) ?_
      refine cd_W.mono (fun r15 h16 H => ?_) H
      obtain ⟨rfl, H⟩ := H
      obtain ⟨F17, H⟩ := H
      show cd_W X m_Desk_request (kc + 4) (ks + 126) 53 [some (.ref 64), some (.int p1), some (.int p2), some (.int p3), some (.int p4), some (.ref b6), some (.int x12)] [] h16 Q
      refine cd_iload (i := 6) d_Desk_request_53 rfl ?_
      exact cd_iret d_Desk_request_55 rfl rfl H
    · replace H := H.2 t14
      refine cd_aload_n (i := 0) (v := .ref 64) d_Desk_request_33 rfl rfl (cd_isr_ref _) ?_
      refine cd_aload (i := 5) (v := .ref b6) d_Desk_request_34 rfl (cd_isr_ref _) ?_
      refine cd_aload_n (i := 0) (v := .ref 64) d_Desk_request_36 rfl rfl (cd_isr_ref _) ?_
      refine cd_iload_n (i := 3) d_Desk_request_37 rfl rfl ?_
      refine cd_callV (kc := (kc + 4)) (ks := (ks + 126)) (kc' := 0) (ks' := 0) (As := [.int p3]) (S := [.ref b6, .ref 64]) d_Desk_request_38 ca_Desk_request_106 (cc_k64 F13) rfl (Nat.le_of_ble_eq_true rfl) (Nat.le_of_ble_eq_true rfl) ?_
      refine cd_W.mono (fun r18 h19 H => ?_) H
      obtain ⟨o20, rfl, H⟩ := H
      obtain ⟨F21, H⟩ := H
      show cd_W X m_Desk_request (kc + 4) (ks + 126) 41 [some (.ref 64), some (.int p1), some (.int p2), some (.int p3), some (.int p4), some (.ref b6), some (.int x12)] [va_rf o20, .ref b6, .ref 64] h19 Q
      refine cd_callV (kc := (kc + 0)) (ks := (ks + 0)) (kc' := 4) (ks' := 126) (As := [.ref b6, va_rf o20]) (S := []) d_Desk_request_41 ca_Desk_request_110 (cc_k64 F21) (by simp only [cd_args, cd_args_rf]; rfl) (by simp only [cd_args, cd_args_rf]; exact Nat.le_of_ble_eq_true rfl) (Nat.le_of_ble_eq_true rfl) ?_
      refine cd_W.mono (fun r22 h23 H => ?_) H
      obtain ⟨x24, rfl, H⟩ := H
      obtain ⟨F25, H⟩ := H
      show cd_W X m_Desk_request (kc + 0) (ks + 0) 44 [some (.ref 64), some (.int p1), some (.int p2), some (.int p3), some (.int p4), some (.ref b6), some (.int x12)] [.int x24] h23 Q
      refine cd_istore (i := 6) d_Desk_request_44 (by decide) ?_
      show cd_W X m_Desk_request (kc + 0) (ks + 0) 46 [some (.ref 64), some (.int p1), some (.int p2), some (.int p3), some (.int p4), some (.ref b6), some (.int x24)] [] h23 Q
      refine cd_aload_n (i := 0) (v := .ref 64) d_Desk_request_46 rfl rfl (cd_isr_ref _) ?_
      refine cd_get (v := .ref 71) d_Desk_request_47 fl_Desk_37 (cc_k64 F25) (congrArg va_rf (cc_r64_3 F25)) ?_
      refine cd_callV (kc := (kc + 0)) (ks := (ks + 0)) (kc' := 0) (ks' := 0) (As := []) (S := []) d_Desk_request_50 ca_Desk_request_114 (cc_k71 F25) rfl (Nat.le_of_ble_eq_true rfl) (Nat.le_of_ble_eq_true rfl) ?_
      refine cd_W.mono (fun r26 h27 H => ?_) H
      obtain ⟨rfl, H⟩ := H
      obtain ⟨F28, H⟩ := H
      show cd_W X m_Desk_request (kc + 0) (ks + 0) 53 [some (.ref 64), some (.int p1), some (.int p2), some (.int p3), some (.int p4), some (.ref b6), some (.int x24)] [] h27 Q
      refine cd_iload (i := 6) d_Desk_request_53 rfl ?_
      exact cd_iret d_Desk_request_55 rfl rfl H

abbrev m_Desk_signature : cd_M := (⟨"CertificateDesk", "signature", "()I"⟩, prog_1_method_5_code, 1, some .int, 1, 20)
theorem d_Desk_signature_0 : decode prog_1_method_5_code 0 = .ok (.aload_n 0, 1) := by decide +kernel
theorem d_Desk_signature_1 : decode prog_1_method_5_code 1 = .ok (.getfield 87, 3) := by decide +kernel
theorem d_Desk_signature_4 : decode prog_1_method_5_code 4 = .ok (.ireturn, 1) := by decide +kernel
theorem g_Desk_signature {X : cd_E} {kc ks : Nat} {h : cd_H} {Q : Option Value → cd_H → Prop}  (F : cc_ok h) (H : Q (some (.int (cd_i h 64 13))) h) : cd_W X m_Desk_signature kc ks 0 [some (.ref 64)] [] h Q := by
  refine cd_aload_n (i := 0) (v := .ref 64) d_Desk_signature_0 rfl rfl (cd_isr_ref _) ?_
  refine cd_get (v := .int (cd_i h 64 13)) d_Desk_signature_1 fl_Desk_87 (cc_k64 F) rfl ?_
  exact cd_iret d_Desk_signature_4 rfl rfl H

abbrev m_Desk_publish : cd_M := (⟨"CertificateDesk", "publish", "(III)Z"⟩, prog_1_method_6_code, 6, some .boolean, 30, 657)
theorem d_Desk_publish_0 : decode prog_1_method_6_code 0 = .ok (.aload_n 0, 1) := by decide +kernel
theorem d_Desk_publish_1 : decode prog_1_method_6_code 1 = .ok (.iload_n 2, 1) := by decide +kernel
theorem d_Desk_publish_2 : decode prog_1_method_6_code 2 = .ok (.invokevirtual 117, 3) := by decide +kernel
theorem ca_Desk_publish_117 {X : cd_E} : cd_CV X m_Desk_publish m_Desk_authorizationAt 117 1 0 := ⟨⟨by decide, kw_4_34, kw_1_1, ⟨by decide, by decide, by decide +kernel⟩, by decide, by decide⟩, ⟨_, rfl, rfl⟩, kw_4_33, kp_24, (Or.inl kw_4_31)⟩
theorem d_Desk_publish_5 : decode prog_1_method_6_code 5 = .ok (.astore 4, 2) := by decide +kernel
theorem d_Desk_publish_7 : decode prog_1_method_6_code 7 = .ok (.aload_n 0, 1) := by decide +kernel
theorem d_Desk_publish_8 : decode prog_1_method_6_code 8 = .ok (.iload_n 3, 1) := by decide +kernel
theorem d_Desk_publish_9 : decode prog_1_method_6_code 9 = .ok (.invokevirtual 98, 3) := by decide +kernel
theorem ca_Desk_publish_98 {X : cd_E} : cd_CV X m_Desk_publish m_Desk_clientKey 98 1 0 := ⟨⟨by decide, kw_1_208, kw_1_1, ⟨by decide, by decide, by decide +kernel⟩, by decide, by decide⟩, ⟨_, rfl, rfl⟩, kw_1_207, kp_0, (Or.inl kw_1_205)⟩
theorem d_Desk_publish_12 : decode prog_1_method_6_code 12 = .ok (.astore 5, 2) := by decide +kernel
theorem d_Desk_publish_14 : decode prog_1_method_6_code 14 = .ok (.iload_n 1, 1) := by decide +kernel
theorem d_Desk_publish_15 : decode prog_1_method_6_code 15 = .ok (.invokestatic 121, 3) := by decide +kernel
theorem ca_Desk_publish_121 {X : cd_E} : cd_CS X m_Desk_publish m_Desk_isWay 121 1 := ⟨⟨by decide, kw_4_30, kw_1_1, ⟨by decide, by decide, by decide +kernel⟩, by decide, by decide⟩, kw_4_29, (Or.inl kw_4_28)⟩
theorem d_Desk_publish_18 : decode prog_1_method_6_code 18 = .ok (.ifCond .eq 13, 3) := by decide +kernel
theorem d_Desk_publish_31 : decode prog_1_method_6_code 31 = .ok (.iconst 0, 1) := by decide +kernel
theorem d_Desk_publish_32 : decode prog_1_method_6_code 32 = .ok (.ireturn, 1) := by decide +kernel
theorem d_Desk_publish_21 : decode prog_1_method_6_code 21 = .ok (.aload 4, 2) := by decide +kernel
theorem d_Desk_publish_23 : decode prog_1_method_6_code 23 = .ok (.ifnull 8, 3) := by decide +kernel
theorem d_Desk_publish_26 : decode prog_1_method_6_code 26 = .ok (.aload 5, 2) := by decide +kernel
theorem d_Desk_publish_28 : decode prog_1_method_6_code 28 = .ok (.ifnonnull 5, 3) := by decide +kernel
theorem d_Desk_publish_33 : decode prog_1_method_6_code 33 = .ok (.aload_n 0, 1) := by decide +kernel
theorem d_Desk_publish_34 : decode prog_1_method_6_code 34 = .ok (.getfield 59, 3) := by decide +kernel
theorem d_Desk_publish_37 : decode prog_1_method_6_code 37 = .ok (.iload_n 1, 1) := by decide +kernel
theorem d_Desk_publish_38 : decode prog_1_method_6_code 38 = .ok (.aload 4, 2) := by decide +kernel
theorem d_Desk_publish_40 : decode prog_1_method_6_code 40 = .ok (.invokestatic 125, 3) := by decide +kernel
theorem ca_Desk_publish_125 {X : cd_E} : cd_CS X m_Desk_publish m_Desk_slot 125 2 := ⟨⟨by decide, kw_4_168, kw_1_1, ⟨by decide, by decide, by decide +kernel⟩, by decide, by decide⟩, kw_4_167, (Or.inl kw_4_166)⟩
theorem d_Desk_publish_43 : decode prog_1_method_6_code 43 = .ok (.aload 4, 2) := by decide +kernel
theorem d_Desk_publish_45 : decode prog_1_method_6_code 45 = .ok (.aload 5, 2) := by decide +kernel
theorem d_Desk_publish_47 : decode prog_1_method_6_code 47 = .ok (.invokevirtual 129, 3) := by decide +kernel
theorem ca_Desk_publish_129 {X : cd_E} : cd_CV X m_Desk_publish m_Aut_proof 129 1 2 := ⟨⟨by decide, kw_4_172, kw_1_26, ⟨by decide, by decide, by decide +kernel⟩, by decide, by decide⟩, ⟨_, rfl, rfl⟩, kw_4_170, kw_4_171, (Or.inl kw_4_169)⟩
theorem d_Desk_publish_50 : decode prog_1_method_6_code 50 = .ok (.iastore, 1) := by decide +kernel
theorem d_Desk_publish_51 : decode prog_1_method_6_code 51 = .ok (.iconst 1, 1) := by decide +kernel
theorem d_Desk_publish_52 : decode prog_1_method_6_code 52 = .ok (.ireturn, 1) := by decide +kernel
theorem g_Desk_publish {X : cd_E} {kc ks : Nat} {h : cd_H} {Q : Option Value → cd_H → Prop} {p1 : Int32} {p2 : Int32} {p3 : Int32} (F : cc_ok h) (H : cd_W X m_Desk_authorizationAt 0 0 0 [some (.ref 64), some (.int p2)] [] h (fun r1 h2 => ∃ o3 : Option Nat, r1 = some (va_rf o3) ∧ ((cc_ok h2) ∧ (cd_W X m_Desk_clientKey 0 0 0 [some (.ref 64), some (.int p3)] [] h2 (fun r5 h6 => ∃ o7 : Option Nat, r5 = some (va_rf o7) ∧ ((cc_ok h6) ∧ (cd_W X m_Desk_isWay 0 0 0 [some (.int p1)] [] h6 (fun r9 h10 => ∃ x11 : Int32, r9 = some (.int x11) ∧ ((cc_ok h10) ∧ ((((x11 = 0) → (Q (some (.int 0)) h10)) ∧ ((¬ x11 = 0) → ((((o3 = none) → (Q (some (.int 0)) h10)) ∧ (∀ b15 : Nat, o3 = some b15 → ((((o7 = none) → (Q (some (.int 0)) h10)) ∧ (∀ b17 : Nat, o7 = some b17 → (cd_W X m_Desk_slot 0 0 0 [some (.int p1), some (.ref b15)] [] h10 (fun r18 h19 => ∃ x20 : Int32, r18 = some (.int x20) ∧ ((cc_ok h19) ∧ ((cd_k h19 b15 = some (.inl 2)) ∧ (cd_W X m_Aut_proof 0 0 0 [some (.ref b15), some (.ref b17), none] [] h19 (fun r23 h24 => ∃ x25 : Int32, r23 = some (.int x25) ∧ ((cc_ok h24) ∧ ((vp_in x20 48) ∧ (Q (some (.int 1)) (cd_si h24 77 x20.toNatClampNeg x25)))))))))))))))))))))))))))) : cd_W X m_Desk_publish kc ks 0 [some (.ref 64), some (.int p1), some (.int p2), some (.int p3), none, none] [] h Q := by
  refine cd_aload_n (i := 0) (v := .ref 64) d_Desk_publish_0 rfl rfl (cd_isr_ref _) ?_
  refine cd_iload_n (i := 2) d_Desk_publish_1 rfl rfl ?_
  refine cd_callV (kc := kc) (ks := ks) (kc' := 0) (ks' := 0) (As := [.int p2]) (S := []) d_Desk_publish_2 ca_Desk_publish_117 (cc_k64 F) rfl (Nat.le_of_ble_eq_true rfl) (Nat.le_of_ble_eq_true rfl) ?_
  refine cd_W.mono (fun r1 h2 H => ?_) H
  obtain ⟨o3, rfl, H⟩ := H
  obtain ⟨F4, H⟩ := H
  show cd_W X m_Desk_publish kc ks 5 [some (.ref 64), some (.int p1), some (.int p2), some (.int p3), none, none] [va_rf o3] h2 Q
  refine cd_astore (i := 4) d_Desk_publish_5 (by decide) (cd_isr_rf _) ?_
  show cd_W X m_Desk_publish kc ks 7 [some (.ref 64), some (.int p1), some (.int p2), some (.int p3), some (va_rf o3), none] [] h2 Q
  refine cd_aload_n (i := 0) (v := .ref 64) d_Desk_publish_7 rfl rfl (cd_isr_ref _) ?_
  refine cd_iload_n (i := 3) d_Desk_publish_8 rfl rfl ?_
  refine cd_callV (kc := kc) (ks := ks) (kc' := 0) (ks' := 0) (As := [.int p3]) (S := []) d_Desk_publish_9 ca_Desk_publish_98 (cc_k64 F4) rfl (Nat.le_of_ble_eq_true rfl) (Nat.le_of_ble_eq_true rfl) ?_
  refine cd_W.mono (fun r5 h6 H => ?_) H
  obtain ⟨o7, rfl, H⟩ := H
  obtain ⟨F8, H⟩ := H
  show cd_W X m_Desk_publish kc ks 12 [some (.ref 64), some (.int p1), some (.int p2), some (.int p3), some (va_rf o3), none] [va_rf o7] h6 Q
  refine cd_astore (i := 5) d_Desk_publish_12 (by decide) (cd_isr_rf _) ?_
  show cd_W X m_Desk_publish kc ks 14 [some (.ref 64), some (.int p1), some (.int p2), some (.int p3), cd_kl (some (va_rf o3)), some (va_rf o7)] [] h6 Q
  rw [cd_kl_rf]
  refine cd_iload_n (i := 1) d_Desk_publish_14 rfl rfl ?_
  refine cd_callS (kc := kc) (ks := ks) (kc' := 0) (ks' := 0) (As := [.int p1]) (S := []) d_Desk_publish_15 ca_Desk_publish_121 rfl (Nat.le_of_ble_eq_true rfl) (Nat.le_of_ble_eq_true rfl) ?_
  refine cd_W.mono (fun r9 h10 H => ?_) H
  obtain ⟨x11, rfl, H⟩ := H
  obtain ⟨F12, H⟩ := H
  show cd_W X m_Desk_publish kc ks 18 [some (.ref 64), some (.int p1), some (.int p2), some (.int p3), some (va_rf o3), some (va_rf o7)] [.int x11] h10 Q
  refine cd_if_eq (tgt := 31) d_Desk_publish_18 (by decide) (fun t13 => ?_) (fun t13 => ?_)
  · replace H := H.1 t13
    refine cd_iconst (v := 0) d_Desk_publish_31 (by decide) ?_
    exact cd_iret d_Desk_publish_32 rfl rfl H
  · replace H := H.2 t13
    refine cd_aload (i := 4) (v := va_rf o3) d_Desk_publish_21 rfl (cd_isr_rf _) ?_
    refine cd_ifnull (r := o3) (tgt := 31) d_Desk_publish_23 (by decide) (fun t14 => ?_) (fun b15 t14 => ?_)
    · replace H := H.1 t14
      rw [cd_rfn t14]
      refine cd_iconst (v := 0) d_Desk_publish_31 (by decide) ?_
      exact cd_iret d_Desk_publish_32 rfl rfl H
    · replace H := H.2 b15 t14
      rw [cd_rfs t14]
      refine cd_aload (i := 5) (v := va_rf o7) d_Desk_publish_26 rfl (cd_isr_rf _) ?_
      refine cd_ifnonnull (r := o7) (tgt := 33) d_Desk_publish_28 (by decide) (fun b17 t16 => ?_) (fun t16 => ?_)
      · replace H := H.2 b17 t16
        rw [cd_rfs t16]
        refine cd_aload_n (i := 0) (v := .ref 64) d_Desk_publish_33 rfl rfl (cd_isr_ref _) ?_
        refine cd_get (v := .ref 77) d_Desk_publish_34 fl_Desk_59 (cc_k64 F12) (congrArg va_rf (cc_r64_7 F12)) ?_
        refine cd_iload_n (i := 1) d_Desk_publish_37 rfl rfl ?_
        refine cd_aload (i := 4) (v := .ref b15) d_Desk_publish_38 rfl (cd_isr_ref _) ?_
        refine cd_callS (kc := kc) (ks := ks) (kc' := 0) (ks' := 0) (As := [.int p1, .ref b15]) (S := [.ref 77]) d_Desk_publish_40 ca_Desk_publish_125 rfl (Nat.le_of_ble_eq_true rfl) (Nat.le_of_ble_eq_true rfl) ?_
        refine cd_W.mono (fun r18 h19 H => ?_) H
        obtain ⟨x20, rfl, H⟩ := H
        obtain ⟨F21, H⟩ := H
        show cd_W X m_Desk_publish kc ks 43 [some (.ref 64), some (.int p1), some (.int p2), some (.int p3), some (.ref b15), some (.ref b17)] [.int x20, .ref 77] h19 Q
        refine cd_aload (i := 4) (v := .ref b15) d_Desk_publish_43 rfl (cd_isr_ref _) ?_
        refine cd_aload (i := 5) (v := .ref b17) d_Desk_publish_45 rfl (cd_isr_ref _) ?_
        obtain ⟨c22, H⟩ := H
        refine cd_callV (kc := kc) (ks := ks) (kc' := 0) (ks' := 0) (As := [.ref b17]) (S := [.int x20, .ref 77]) d_Desk_publish_47 ca_Desk_publish_129 c22 rfl (Nat.le_of_ble_eq_true rfl) (Nat.le_of_ble_eq_true rfl) ?_
        refine cd_W.mono (fun r23 h24 H => ?_) H
        obtain ⟨x25, rfl, H⟩ := H
        obtain ⟨F26, H⟩ := H
        show cd_W X m_Desk_publish kc ks 50 [some (.ref 64), some (.int p1), some (.int p2), some (.int p3), some (.ref b15), some (.ref b17)] [.int x25, .int x20, .ref 77] h24 Q
        obtain ⟨c27, H⟩ := H
        refine cd_iasto (j := x20) d_Desk_publish_50 rfl (cc_k77 F26) (by decide) c27 ?_
        refine cd_iconst (v := 1) d_Desk_publish_51 (by decide) ?_
        exact cd_iret d_Desk_publish_52 rfl rfl H
      · replace H := H.1 t16
        rw [cd_rfn t16]
        refine cd_iconst (v := 0) d_Desk_publish_31 (by decide) ?_
        exact cd_iret d_Desk_publish_32 rfl rfl H

abbrev m_Desk_withdraw : cd_M := (⟨"CertificateDesk", "withdraw", "(II)Z"⟩, prog_1_method_7_code, 4, some .boolean, 12, 260)
theorem d_Desk_withdraw_0 : decode prog_1_method_7_code 0 = .ok (.aload_n 0, 1) := by decide +kernel
theorem d_Desk_withdraw_1 : decode prog_1_method_7_code 1 = .ok (.iload_n 2, 1) := by decide +kernel
theorem d_Desk_withdraw_2 : decode prog_1_method_7_code 2 = .ok (.invokevirtual 117, 3) := by decide +kernel
theorem ca_Desk_withdraw_117 {X : cd_E} : cd_CV X m_Desk_withdraw m_Desk_authorizationAt 117 1 0 := ⟨⟨by decide, kw_4_34, kw_1_1, ⟨by decide, by decide, by decide +kernel⟩, by decide, by decide⟩, ⟨_, rfl, rfl⟩, kw_4_33, kp_24, (Or.inl kw_4_31)⟩
theorem d_Desk_withdraw_5 : decode prog_1_method_7_code 5 = .ok (.astore_n 3, 1) := by decide +kernel
theorem d_Desk_withdraw_6 : decode prog_1_method_7_code 6 = .ok (.iload_n 1, 1) := by decide +kernel
theorem d_Desk_withdraw_7 : decode prog_1_method_7_code 7 = .ok (.invokestatic 121, 3) := by decide +kernel
theorem ca_Desk_withdraw_121 {X : cd_E} : cd_CS X m_Desk_withdraw m_Desk_isWay 121 1 := ⟨⟨by decide, kw_4_30, kw_1_1, ⟨by decide, by decide, by decide +kernel⟩, by decide, by decide⟩, kw_4_29, (Or.inl kw_4_28)⟩
theorem d_Desk_withdraw_10 : decode prog_1_method_7_code 10 = .ok (.ifCond .eq 21, 3) := by decide +kernel
theorem d_Desk_withdraw_31 : decode prog_1_method_7_code 31 = .ok (.iconst 0, 1) := by decide +kernel
theorem d_Desk_withdraw_32 : decode prog_1_method_7_code 32 = .ok (.ireturn, 1) := by decide +kernel
theorem d_Desk_withdraw_13 : decode prog_1_method_7_code 13 = .ok (.aload_n 3, 1) := by decide +kernel
theorem d_Desk_withdraw_14 : decode prog_1_method_7_code 14 = .ok (.ifnull 17, 3) := by decide +kernel
theorem d_Desk_withdraw_17 : decode prog_1_method_7_code 17 = .ok (.aload_n 0, 1) := by decide +kernel
theorem d_Desk_withdraw_18 : decode prog_1_method_7_code 18 = .ok (.getfield 59, 3) := by decide +kernel
theorem d_Desk_withdraw_21 : decode prog_1_method_7_code 21 = .ok (.iload_n 1, 1) := by decide +kernel
theorem d_Desk_withdraw_22 : decode prog_1_method_7_code 22 = .ok (.aload_n 3, 1) := by decide +kernel
theorem d_Desk_withdraw_23 : decode prog_1_method_7_code 23 = .ok (.invokestatic 125, 3) := by decide +kernel
theorem ca_Desk_withdraw_125 {X : cd_E} : cd_CS X m_Desk_withdraw m_Desk_slot 125 2 := ⟨⟨by decide, kw_4_168, kw_1_1, ⟨by decide, by decide, by decide +kernel⟩, by decide, by decide⟩, kw_4_167, (Or.inl kw_4_166)⟩
theorem d_Desk_withdraw_26 : decode prog_1_method_7_code 26 = .ok (.iaload, 1) := by decide +kernel
theorem d_Desk_withdraw_27 : decode prog_1_method_7_code 27 = .ok (.iconst (-1), 1) := by decide +kernel
theorem d_Desk_withdraw_28 : decode prog_1_method_7_code 28 = .ok (.if_icmp .ne 5, 3) := by decide +kernel
theorem d_Desk_withdraw_33 : decode prog_1_method_7_code 33 = .ok (.aload_n 0, 1) := by decide +kernel
theorem d_Desk_withdraw_34 : decode prog_1_method_7_code 34 = .ok (.getfield 59, 3) := by decide +kernel
theorem d_Desk_withdraw_37 : decode prog_1_method_7_code 37 = .ok (.iload_n 1, 1) := by decide +kernel
theorem d_Desk_withdraw_38 : decode prog_1_method_7_code 38 = .ok (.aload_n 3, 1) := by decide +kernel
theorem d_Desk_withdraw_39 : decode prog_1_method_7_code 39 = .ok (.invokestatic 125, 3) := by decide +kernel
theorem d_Desk_withdraw_42 : decode prog_1_method_7_code 42 = .ok (.iconst (-1), 1) := by decide +kernel
theorem d_Desk_withdraw_43 : decode prog_1_method_7_code 43 = .ok (.iastore, 1) := by decide +kernel
theorem d_Desk_withdraw_44 : decode prog_1_method_7_code 44 = .ok (.iconst 1, 1) := by decide +kernel
theorem d_Desk_withdraw_45 : decode prog_1_method_7_code 45 = .ok (.ireturn, 1) := by decide +kernel
theorem g_Desk_withdraw {X : cd_E} {kc ks : Nat} {h : cd_H} {Q : Option Value → cd_H → Prop} {p1 : Int32} {p2 : Int32} (F : cc_ok h) (H : cd_W X m_Desk_authorizationAt 0 0 0 [some (.ref 64), some (.int p2)] [] h (fun r1 h2 => ∃ o3 : Option Nat, r1 = some (va_rf o3) ∧ ((cc_ok h2) ∧ (cd_W X m_Desk_isWay 0 0 0 [some (.int p1)] [] h2 (fun r5 h6 => ∃ x7 : Int32, r5 = some (.int x7) ∧ ((cc_ok h6) ∧ ((((x7 = 0) → (Q (some (.int 0)) h6)) ∧ ((¬ x7 = 0) → ((((o3 = none) → (Q (some (.int 0)) h6)) ∧ (∀ b11 : Nat, o3 = some b11 → (cd_W X m_Desk_slot 0 0 0 [some (.int p1), some (.ref b11)] [] h6 (fun r12 h13 => ∃ x14 : Int32, r12 = some (.int x14) ∧ ((cc_ok h13) ∧ ((vp_in x14 48) ∧ ((((¬ (cd_i h13 77 x14.toNatClampNeg) = (-1)) → (cd_W X m_Desk_slot 0 0 0 [some (.int p1), some (.ref b11)] [] h13 (fun r18 h19 => ∃ x20 : Int32, r18 = some (.int x20) ∧ ((cc_ok h19) ∧ ((vp_in x20 48) ∧ (Q (some (.int 1)) (cd_si h19 77 x20.toNatClampNeg (-1)))))))) ∧ (((cd_i h13 77 x14.toNatClampNeg) = (-1)) → (Q (some (.int 0)) h13)))))))))))))))))))) : cd_W X m_Desk_withdraw kc ks 0 [some (.ref 64), some (.int p1), some (.int p2), none] [] h Q := by
  refine cd_aload_n (i := 0) (v := .ref 64) d_Desk_withdraw_0 rfl rfl (cd_isr_ref _) ?_
  refine cd_iload_n (i := 2) d_Desk_withdraw_1 rfl rfl ?_
  refine cd_callV (kc := kc) (ks := ks) (kc' := 0) (ks' := 0) (As := [.int p2]) (S := []) d_Desk_withdraw_2 ca_Desk_withdraw_117 (cc_k64 F) rfl (Nat.le_of_ble_eq_true rfl) (Nat.le_of_ble_eq_true rfl) ?_
  refine cd_W.mono (fun r1 h2 H => ?_) H
  obtain ⟨o3, rfl, H⟩ := H
  obtain ⟨F4, H⟩ := H
  show cd_W X m_Desk_withdraw kc ks 5 [some (.ref 64), some (.int p1), some (.int p2), none] [va_rf o3] h2 Q
  refine cd_astore_n (i := 3) d_Desk_withdraw_5 rfl (by decide) (cd_isr_rf _) ?_
  show cd_W X m_Desk_withdraw kc ks 6 [some (.ref 64), some (.int p1), some (.int p2), some (va_rf o3)] [] h2 Q
  refine cd_iload_n (i := 1) d_Desk_withdraw_6 rfl rfl ?_
  refine cd_callS (kc := kc) (ks := ks) (kc' := 0) (ks' := 0) (As := [.int p1]) (S := []) d_Desk_withdraw_7 ca_Desk_withdraw_121 rfl (Nat.le_of_ble_eq_true rfl) (Nat.le_of_ble_eq_true rfl) ?_
  refine cd_W.mono (fun r5 h6 H => ?_) H
  obtain ⟨x7, rfl, H⟩ := H
  obtain ⟨F8, H⟩ := H
  show cd_W X m_Desk_withdraw kc ks 10 [some (.ref 64), some (.int p1), some (.int p2), some (va_rf o3)] [.int x7] h6 Q
  refine cd_if_eq (tgt := 31) d_Desk_withdraw_10 (by decide) (fun t9 => ?_) (fun t9 => ?_)
  · replace H := H.1 t9
    refine cd_iconst (v := 0) d_Desk_withdraw_31 (by decide) ?_
    exact cd_iret d_Desk_withdraw_32 rfl rfl H
  · replace H := H.2 t9
    refine cd_aload_n (i := 3) (v := va_rf o3) d_Desk_withdraw_13 rfl rfl (cd_isr_rf _) ?_
    refine cd_ifnull (r := o3) (tgt := 31) d_Desk_withdraw_14 (by decide) (fun t10 => ?_) (fun b11 t10 => ?_)
    · replace H := H.1 t10
      rw [cd_rfn t10]
      refine cd_iconst (v := 0) d_Desk_withdraw_31 (by decide) ?_
      exact cd_iret d_Desk_withdraw_32 rfl rfl H
    · replace H := H.2 b11 t10
      rw [cd_rfs t10]
      refine cd_aload_n (i := 0) (v := .ref 64) d_Desk_withdraw_17 rfl rfl (cd_isr_ref _) ?_
      refine cd_get (v := .ref 77) d_Desk_withdraw_18 fl_Desk_59 (cc_k64 F8) (congrArg va_rf (cc_r64_7 F8)) ?_
      refine cd_iload_n (i := 1) d_Desk_withdraw_21 rfl rfl ?_
      refine cd_aload_n (i := 3) (v := .ref b11) d_Desk_withdraw_22 rfl rfl (cd_isr_ref _) ?_
      refine cd_callS (kc := kc) (ks := ks) (kc' := 0) (ks' := 0) (As := [.int p1, .ref b11]) (S := [.ref 77]) d_Desk_withdraw_23 ca_Desk_withdraw_125 rfl (Nat.le_of_ble_eq_true rfl) (Nat.le_of_ble_eq_true rfl) ?_
      refine cd_W.mono (fun r12 h13 H => ?_) H
      obtain ⟨x14, rfl, H⟩ := H
      obtain ⟨F15, H⟩ := H
      show cd_W X m_Desk_withdraw kc ks 26 [some (.ref 64), some (.int p1), some (.int p2), some (.ref b11)] [.int x14, .ref 77] h13 Q
      obtain ⟨c16, H⟩ := H
      refine cd_iald (j := x14) d_Desk_withdraw_26 rfl (cc_k77 F15) c16 ?_
      refine cd_iconst (v := (-1)) d_Desk_withdraw_27 (by decide) ?_
      refine cd_icmp_ne (tgt := 33) d_Desk_withdraw_28 (by decide) (fun t17 => ?_) (fun t17 => ?_)
      · replace H := H.1 t17
        refine cd_aload_n (i := 0) (v := .ref 64) d_Desk_withdraw_33 rfl rfl (cd_isr_ref _) ?_
        refine cd_get (v := .ref 77) d_Desk_withdraw_34 fl_Desk_59 (cc_k64 F15) (congrArg va_rf (cc_r64_7 F15)) ?_
        refine cd_iload_n (i := 1) d_Desk_withdraw_37 rfl rfl ?_
        refine cd_aload_n (i := 3) (v := .ref b11) d_Desk_withdraw_38 rfl rfl (cd_isr_ref _) ?_
        refine cd_callS (kc := kc) (ks := ks) (kc' := 0) (ks' := 0) (As := [.int p1, .ref b11]) (S := [.ref 77]) d_Desk_withdraw_39 ca_Desk_withdraw_125 rfl (Nat.le_of_ble_eq_true rfl) (Nat.le_of_ble_eq_true rfl) ?_
        refine cd_W.mono (fun r18 h19 H => ?_) H
        obtain ⟨x20, rfl, H⟩ := H
        obtain ⟨F21, H⟩ := H
        show cd_W X m_Desk_withdraw kc ks 42 [some (.ref 64), some (.int p1), some (.int p2), some (.ref b11)] [.int x20, .ref 77] h19 Q
        refine cd_iconst (v := (-1)) d_Desk_withdraw_42 (by decide) ?_
        obtain ⟨c22, H⟩ := H
        refine cd_iasto (j := x20) d_Desk_withdraw_43 rfl (cc_k77 F21) (by decide) c22 ?_
        refine cd_iconst (v := 1) d_Desk_withdraw_44 (by decide) ?_
        exact cd_iret d_Desk_withdraw_45 rfl rfl H
      · replace H := H.2 t17
        refine cd_iconst (v := 0) d_Desk_withdraw_31 (by decide) ?_
        exact cd_iret d_Desk_withdraw_32 rfl rfl H

abbrev m_Desk_tick : cd_M := (⟨"CertificateDesk", "tick", "()I"⟩, prog_1_method_8_code, 6, some .int, 31, 678)
theorem d_Desk_tick_0 : decode prog_1_method_8_code 0 = .ok (.aload_n 0, 1) := by decide +kernel
theorem d_Desk_tick_1 : decode prog_1_method_8_code 1 = .ok (.dup, 1) := by decide +kernel
theorem d_Desk_tick_2 : decode prog_1_method_8_code 2 = .ok (.getfield 84, 3) := by decide +kernel
theorem d_Desk_tick_5 : decode prog_1_method_8_code 5 = .ok (.iconst 1, 1) := by decide +kernel
theorem d_Desk_tick_6 : decode prog_1_method_8_code 6 = .ok (.iadd, 1) := by decide +kernel
theorem d_Desk_tick_7 : decode prog_1_method_8_code 7 = .ok (.putfield 84, 3) := by decide +kernel
theorem fp_Desk_tick_84 {X : cd_E} : cd_FP X m_Desk_tick 84 0 12 .int := cd_FP.of cl_0 rfl rfl (by decide) kw_1_154 (Or.inl rfl) (Or.inl rfl)
theorem d_Desk_tick_10 : decode prog_1_method_8_code 10 = .ok (.iconst 0, 1) := by decide +kernel
theorem d_Desk_tick_11 : decode prog_1_method_8_code 11 = .ok (.istore_n 1, 1) := by decide +kernel
theorem d_Desk_tick_12 : decode prog_1_method_8_code 12 = .ok (.iconst 0, 1) := by decide +kernel
theorem d_Desk_tick_13 : decode prog_1_method_8_code 13 = .ok (.istore_n 2, 1) := by decide +kernel
theorem g_Desk_tick {X : cd_E} {kc ks : Nat} {h : cd_H} {Q : Option Value → cd_H → Prop}  (F : cc_ok h) (H : cd_W X m_Desk_tick kc ks 14 [some (.ref 64), some (.int 0), some (.int 0), none, none, none] [] (cd_si h 64 12 ((cd_i h 64 12) + 1)) Q) : cd_W X m_Desk_tick kc ks 0 [some (.ref 64), none, none, none, none, none] [] h Q := by
  refine cd_aload_n (i := 0) (v := .ref 64) d_Desk_tick_0 rfl rfl (cd_isr_ref _) ?_
  refine cd_dup d_Desk_tick_1 rfl ?_
  refine cd_get (v := .int (cd_i h 64 12)) d_Desk_tick_2 fl_Desk_84 (cc_k64 F) rfl ?_
  refine cd_iconst (v := 1) d_Desk_tick_5 (by decide) ?_
  refine cd_iadd d_Desk_tick_6 ?_
  refine cd_putI d_Desk_tick_7 fp_Desk_tick_84 (fun _ _ _ => rfl) (cc_k64 F) (by decide) rfl rfl ?_
  refine cd_iconst (v := 0) d_Desk_tick_10 (by decide) ?_
  refine cd_istore_n (i := 1) d_Desk_tick_11 rfl (by decide) ?_
  show cd_W X m_Desk_tick kc ks 12 [some (.ref 64), some (.int 0), none, none, none, none] [] (cd_si h 64 12 ((cd_i h 64 12) + 1)) Q
  refine cd_iconst (v := 0) d_Desk_tick_12 (by decide) ?_
  refine cd_istore_n (i := 2) d_Desk_tick_13 rfl (by decide) ?_
  show cd_W X m_Desk_tick kc ks 14 [some (.ref 64), some (.int 0), some (.int 0), none, none, none] [] (cd_si h 64 12 ((cd_i h 64 12) + 1)) Q
  exact H

theorem d_Desk_tick_14 : decode prog_1_method_8_code 14 = .ok (.iload_n 2, 1) := by decide +kernel
theorem d_Desk_tick_15 : decode prog_1_method_8_code 15 = .ok (.aload_n 0, 1) := by decide +kernel
theorem d_Desk_tick_16 : decode prog_1_method_8_code 16 = .ok (.getfield 78, 3) := by decide +kernel
theorem d_Desk_tick_19 : decode prog_1_method_8_code 19 = .ok (.invokevirtual 135, 3) := by decide +kernel
theorem ca_Desk_tick_135 {X : cd_E} : cd_CV X m_Desk_tick m_AL_size 135 0 12 := ⟨⟨by decide, kw_2_11, kw_1_9, ⟨by decide, by decide, by decide +kernel⟩, by decide, by decide⟩, ⟨_, rfl, rfl⟩, kw_2_9, kw_2_10, (Or.inl kw_2_8)⟩
theorem d_Desk_tick_22 : decode prog_1_method_8_code 22 = .ok (.if_icmp .ge 93, 3) := by decide +kernel
theorem d_Desk_tick_115 : decode prog_1_method_8_code 115 = .ok (.iload_n 1, 1) := by decide +kernel
theorem d_Desk_tick_116 : decode prog_1_method_8_code 116 = .ok (.ireturn, 1) := by decide +kernel
theorem d_Desk_tick_25 : decode prog_1_method_8_code 25 = .ok (.aload_n 0, 1) := by decide +kernel
theorem d_Desk_tick_26 : decode prog_1_method_8_code 26 = .ok (.getfield 78, 3) := by decide +kernel
theorem d_Desk_tick_29 : decode prog_1_method_8_code 29 = .ok (.iload_n 2, 1) := by decide +kernel
theorem d_Desk_tick_30 : decode prog_1_method_8_code 30 = .ok (.invokevirtual 138, 3) := by decide +kernel
theorem ca_Desk_tick_138 {X : cd_E} : cd_CV X m_Desk_tick m_AL_get 138 1 12 := ⟨⟨by decide, kw_2_15, kw_1_9, ⟨by decide, by decide, by decide +kernel⟩, by decide, by decide⟩, ⟨_, rfl, rfl⟩, kw_2_13, kw_2_14, (Or.inl kw_2_12)⟩
theorem d_Desk_tick_33 : decode prog_1_method_8_code 33 = .ok (.checkcast 130, 3) := by decide +kernel
theorem d_Desk_tick_36 : decode prog_1_method_8_code 36 = .ok (.astore_n 3, 1) := by decide +kernel
theorem d_Desk_tick_37 : decode prog_1_method_8_code 37 = .ok (.aload_n 0, 1) := by decide +kernel
theorem d_Desk_tick_38 : decode prog_1_method_8_code 38 = .ok (.aload_n 3, 1) := by decide +kernel
theorem d_Desk_tick_39 : decode prog_1_method_8_code 39 = .ok (.invokevirtual 142, 3) := by decide +kernel
theorem ca_Desk_tick_142 {X : cd_E} : cd_CV X m_Desk_tick m_Desk_authorizationState 142 1 0 := ⟨⟨by decide, kw_3_26, kw_1_1, ⟨by decide, by decide, by decide +kernel⟩, by decide, by decide⟩, ⟨_, rfl, rfl⟩, kw_3_25, kp_20, (Or.inl kw_3_23)⟩
theorem d_Desk_tick_42 : decode prog_1_method_8_code 42 = .ok (.iconst 1, 1) := by decide +kernel
theorem d_Desk_tick_43 : decode prog_1_method_8_code 43 = .ok (.if_icmp .eq 6, 3) := by decide +kernel
theorem d_Desk_tick_49 : decode prog_1_method_8_code 49 = .ok (.aload_n 0, 1) := by decide +kernel
theorem d_Desk_tick_50 : decode prog_1_method_8_code 50 = .ok (.aload_n 3, 1) := by decide +kernel
theorem d_Desk_tick_51 : decode prog_1_method_8_code 51 = .ok (.invokevirtual 146, 3) := by decide +kernel
theorem kw_4_198 : (Jvm.Cond.methodLink "CertificateDesk" (146 : Nat) ({ cls := "CertificateDesk", name := "isProofPublished", desc := "(LCertificateDesk$Authorization;)Z" } : Jvm.MethodName)) ∈ cd_tbl := tb_4 (List.mem_of_getElem? (i := 198) (by decide +kernel)) (by decide)
theorem kw_4_201 : (Jvm.Cond.code ({ cls := "CertificateDesk", name := "isProofPublished", desc := "(LCertificateDesk$Authorization;)Z" } : Jvm.MethodName) prog_1_method_28_code (2 : Nat) (Option.some Jvm.ClassFile.FieldType.boolean)) ∈ cd_tbl := tb_4 (List.mem_of_getElem? (i := 201) (by decide +kernel)) (by decide)
theorem kw_4_200 : (Jvm.Cond.instanceMethod ({ cls := "CertificateDesk", name := "isProofPublished", desc := "(LCertificateDesk$Authorization;)Z" } : Jvm.MethodName)) ∈ cd_tbl := tb_4 (List.mem_of_getElem? (i := 200) (by decide +kernel)) (by decide)
theorem kp_36 : Cond.selects "CertificateDesk" ⟨"CertificateDesk", "isProofPublished", "(LCertificateDesk$Authorization;)Z"⟩ ⟨"CertificateDesk", "isProofPublished", "(LCertificateDesk$Authorization;)Z"⟩ ∈ cd_tbl := cd_sel (List.mem_of_getElem? (i := 36) (by decide +kernel)) (by decide)
theorem ca_Desk_tick_146 {X : cd_E} : cd_CV X m_Desk_tick m_Desk_isProofPublished 146 1 0 := ⟨⟨by decide, kw_4_201, kw_1_1, ⟨by decide, by decide, by decide +kernel⟩, by decide, by decide⟩, ⟨_, rfl, rfl⟩, kw_4_200, kp_36, (Or.inl kw_4_198)⟩
theorem d_Desk_tick_54 : decode prog_1_method_8_code 54 = .ok (.istore 4, 2) := by decide +kernel
theorem d_Desk_tick_56 : decode prog_1_method_8_code 56 = .ok (.aload_n 0, 1) := by decide +kernel
theorem d_Desk_tick_57 : decode prog_1_method_8_code 57 = .ok (.iconst 5, 1) := by decide +kernel
theorem d_Desk_tick_58 : decode prog_1_method_8_code 58 = .ok (.invokevirtual 150, 3) := by decide +kernel
theorem ca_Desk_tick_150 {X : cd_E} : cd_CV X m_Desk_tick m_Desk_keep 150 1 0 := ⟨⟨by decide, kw_2_130, kw_1_1, ⟨by decide, by decide, by decide +kernel⟩, by decide, by decide⟩, ⟨_, rfl, rfl⟩, kw_2_129, kp_13, (Or.inl kw_2_127)⟩
theorem d_Desk_tick_61 : decode prog_1_method_8_code 61 = .ok (.astore 5, 2) := by decide +kernel
theorem d_Desk_tick_63 : decode prog_1_method_8_code 63 = .ok (.aload_n 3, 1) := by decide +kernel
theorem d_Desk_tick_64 : decode prog_1_method_8_code 64 = .ok (.iconst (-1), 1) := by decide +kernel
theorem d_Desk_tick_65 : decode prog_1_method_8_code 65 = .ok (.putfield 154, 3) := by decide +kernel
theorem fp_Desk_tick_154 {X : cd_E} : cd_FP X m_Desk_tick 154 2 7 .int := cd_FP.of cl_2 rfl rfl (by decide) kw_3_239 (Or.inl rfl) (Or.inl rfl)
theorem d_Desk_tick_68 : decode prog_1_method_8_code 68 = .ok (.aload 5, 2) := by decide +kernel
theorem d_Desk_tick_70 : decode prog_1_method_8_code 70 = .ok (.getfield 157, 3) := by decide +kernel
theorem d_Desk_tick_73 : decode prog_1_method_8_code 73 = .ok (.ifCond .eq 26, 3) := by decide +kernel
theorem d_Desk_tick_99 : decode prog_1_method_8_code 99 = .ok (.aload 5, 2) := by decide +kernel
theorem d_Desk_tick_101 : decode prog_1_method_8_code 101 = .ok (.getfield 167, 3) := by decide +kernel
theorem d_Desk_tick_104 : decode prog_1_method_8_code 104 = .ok (.ifCond .eq 5, 3) := by decide +kernel
theorem d_Desk_tick_109 : decode prog_1_method_8_code 109 = .ok (.iinc 2 1, 3) := by decide +kernel
theorem d_Desk_tick_112 : decode prog_1_method_8_code 112 = .ok (.goto (-98), 3) := by decide +kernel
theorem d_Desk_tick_107 : decode prog_1_method_8_code 107 = .ok (.iload_n 1, 1) := by decide +kernel
theorem d_Desk_tick_108 : decode prog_1_method_8_code 108 = .ok (.ireturn, 1) := by decide +kernel
theorem d_Desk_tick_76 : decode prog_1_method_8_code 76 = .ok (.aload_n 3, 1) := by decide +kernel
theorem d_Desk_tick_77 : decode prog_1_method_8_code 77 = .ok (.iload 4, 2) := by decide +kernel
theorem d_Desk_tick_79 : decode prog_1_method_8_code 79 = .ok (.aload_n 0, 1) := by decide +kernel
theorem d_Desk_tick_80 : decode prog_1_method_8_code 80 = .ok (.getfield 84, 3) := by decide +kernel
theorem d_Desk_tick_83 : decode prog_1_method_8_code 83 = .ok (.invokevirtual 163, 3) := by decide +kernel
theorem kw_4_202 : (Jvm.Cond.methodLink "CertificateDesk" (163 : Nat) ({ cls := "CertificateDesk$Authorization", name := "decide", desc := "(ZI)V" } : Jvm.MethodName)) ∈ cd_tbl := tb_4 (List.mem_of_getElem? (i := 202) (by decide +kernel)) (by decide)
theorem kw_4_205 : (Jvm.Cond.code ({ cls := "CertificateDesk$Authorization", name := "decide", desc := "(ZI)V" } : Jvm.MethodName) prog_3_method_2_code (3 : Nat) (Option.none : Option Jvm.ClassFile.FieldType)) ∈ cd_tbl := tb_4 (List.mem_of_getElem? (i := 205) (by decide +kernel)) (by decide)
theorem kw_4_203 : (Jvm.Cond.instanceMethod ({ cls := "CertificateDesk$Authorization", name := "decide", desc := "(ZI)V" } : Jvm.MethodName)) ∈ cd_tbl := tb_4 (List.mem_of_getElem? (i := 203) (by decide +kernel)) (by decide)
theorem kw_4_204 : (Jvm.Cond.selects "CertificateDesk$Authorization" ({ cls := "CertificateDesk$Authorization", name := "decide", desc := "(ZI)V" } : Jvm.MethodName) ({ cls := "CertificateDesk$Authorization", name := "decide", desc := "(ZI)V" } : Jvm.MethodName)) ∈ cd_tbl := tb_4 (List.mem_of_getElem? (i := 204) (by decide +kernel)) (by decide)
theorem ca_Desk_tick_163 {X : cd_E} : cd_CV X m_Desk_tick m_Aut_decide 163 2 2 := ⟨⟨by decide, kw_4_205, kw_1_26, ⟨by decide, by decide, by decide +kernel⟩, by decide, by decide⟩, ⟨_, rfl, rfl⟩, kw_4_203, kw_4_204, (Or.inl kw_4_202)⟩
theorem d_Desk_tick_86 : decode prog_1_method_8_code 86 = .ok (.iload_n 1, 1) := by decide +kernel
theorem d_Desk_tick_87 : decode prog_1_method_8_code 87 = .ok (.iload 4, 2) := by decide +kernel
theorem d_Desk_tick_89 : decode prog_1_method_8_code 89 = .ok (.ifCond .eq 7, 3) := by decide +kernel
theorem d_Desk_tick_96 : decode prog_1_method_8_code 96 = .ok (.iconst 0, 1) := by decide +kernel
theorem d_Desk_tick_97 : decode prog_1_method_8_code 97 = .ok (.iadd, 1) := by decide +kernel
theorem d_Desk_tick_98 : decode prog_1_method_8_code 98 = .ok (.istore_n 1, 1) := by decide +kernel
theorem d_Desk_tick_92 : decode prog_1_method_8_code 92 = .ok (.iconst 1, 1) := by decide +kernel
theorem d_Desk_tick_93 : decode prog_1_method_8_code 93 = .ok (.goto 4, 3) := by decide +kernel
theorem d_Desk_tick_46 : decode prog_1_method_8_code 46 = .ok (.goto 63, 3) := by decide +kernel
theorem g_Desk_tick_14 {X : cd_E} {kc ks : Nat} {h : cd_H} {Q : Option Value → cd_H → Prop} {v1 : Int32} {v2 : Int32} (F : cc_ok h) (H : cd_W X m_AL_size 0 0 0 [some (.ref 80)] [] h (fun r1 h2 => ∃ x3 : Int32, r1 = some (.int x3) ∧ ((cc_ok h2) ∧ ((((x3 ≤ v2) → (Q (some (.int v1)) h2)) ∧ ((¬ x3 ≤ v2) → (cd_W X m_AL_get 0 0 0 [some (.ref 80), some (.int v2)] [] h2 (fun r6 h7 => ∃ o8 : Option Nat, r6 = some (va_rf o8) ∧ ((cc_ok h7) ∧ ((∃ b10 : Nat, o8 = some b10 ∧ ((cd_k h7 b10 = some (.inl 2)) ∧ (cd_W X m_Desk_authorizationState 0 0 0 [some (.ref 64), some (.ref b10)] [] h7 (fun r13 h14 => ∃ x15 : Int32, r13 = some (.int x15) ∧ ((cc_ok h14) ∧ ((((x15 = 1) → (cd_W X m_Desk_isProofPublished 0 0 0 [some (.ref 64), some (.ref b10)] [] h14 (fun r18 h19 => ∃ x20 : Int32, r18 = some (.int x20) ∧ ((cc_ok h19) ∧ (cd_W X m_Desk_keep 0 0 0 [some (.ref 64), some (.int 5), none] [] h19 (fun r22 h23 => ∃ b24 : Nat, r22 = some (.ref b24) ∧ ((cc_ok h23) ∧ ((cd_k h23 b10 = some (.inl 2)) ∧ ((64 ≤ b10) ∧ ((cd_k h23 b24 = some (.inl 10)) ∧ (((((cd_i (cd_si h23 b10 7 (-1)) b24 0) = 0) → (((((cd_i (cd_si h23 b10 7 (-1)) b24 1) = 0) → (cd_W X m_Desk_tick kc ks 14 [some (.ref 64), some (.int v1), some (.int (v2 + 1)), none, none, none] [] (cd_si h23 b10 7 (-1)) Q)) ∧ ((¬ (cd_i (cd_si h23 b10 7 (-1)) b24 1) = 0) → (Q (some (.int v1)) (cd_si h23 b10 7 (-1))))))) ∧ ((¬ (cd_i (cd_si h23 b10 7 (-1)) b24 0) = 0) → (cd_W X m_Aut_decide 0 0 0 [some (.ref b10), some (.int x20), some (.int (cd_i (cd_si h23 b10 7 (-1)) 64 12))] [] (cd_si h23 b10 7 (-1)) (fun r31 h32 => (r31 = none) ∧ ((cc_ok h32) ∧ ((((x20 = 0) → ((cd_k h32 b24 = some (.inl 10)) ∧ (((((cd_i h32 b24 1) = 0) → (cd_W X m_Desk_tick kc ks 14 [some (.ref 64), some (.int (v1 + 0)), some (.int (v2 + 1)), none, none, none] [] h32 Q)) ∧ ((¬ (cd_i h32 b24 1) = 0) → (Q (some (.int (v1 + 0))) h32)))))) ∧ ((¬ x20 = 0) → ((cd_k h32 b24 = some (.inl 10)) ∧ (((((cd_i h32 b24 1) = 0) → (cd_W X m_Desk_tick kc ks 14 [some (.ref 64), some (.int (v1 + 1)), some (.int (v2 + 1)), none, none, none] [] h32 Q)) ∧ ((¬ (cd_i h32 b24 1) = 0) → (Q (some (.int (v1 + 1))) h32)))))))))))))))))))))))) ∧ ((¬ x15 = 1) → (cd_W X m_Desk_tick kc ks 14 [some (.ref 64), some (.int v1), some (.int (v2 + 1)), none, none, none] [] h14 Q))))))))))))))))))) : cd_W X m_Desk_tick kc ks 14 [some (.ref 64), some (.int v1), some (.int v2), none, none, none] [] h Q := by
  refine cd_iload_n (i := 2) d_Desk_tick_14 rfl rfl ?_
  refine cd_aload_n (i := 0) (v := .ref 64) d_Desk_tick_15 rfl rfl (cd_isr_ref _) ?_
  refine cd_get (v := .ref 80) d_Desk_tick_16 fl_Desk_78 (cc_k64 F) (congrArg va_rf (cc_r64_10 F)) ?_
  refine cd_callV (kc := kc) (ks := ks) (kc' := 0) (ks' := 0) (As := []) (S := [.int v2]) d_Desk_tick_19 ca_Desk_tick_135 (cc_k80 F) rfl (Nat.le_of_ble_eq_true rfl) (Nat.le_of_ble_eq_true rfl) ?_
  refine cd_W.mono (fun r1 h2 H => ?_) H
  obtain ⟨x3, rfl, H⟩ := H
  obtain ⟨F4, H⟩ := H
  show cd_W X m_Desk_tick kc ks 22 [some (.ref 64), some (.int v1), some (.int v2), none, none, none] [.int x3, .int v2] h2 Q
  refine cd_icmp_ge (tgt := 115) d_Desk_tick_22 (by decide) (fun t5 => ?_) (fun t5 => ?_)
  · replace H := H.1 t5
    refine cd_iload_n (i := 1) d_Desk_tick_115 rfl rfl ?_
    exact cd_iret d_Desk_tick_116 rfl rfl H
  · replace H := H.2 t5
    refine cd_aload_n (i := 0) (v := .ref 64) d_Desk_tick_25 rfl rfl (cd_isr_ref _) ?_
    refine cd_get (v := .ref 80) d_Desk_tick_26 fl_Desk_78 (cc_k64 F4) (congrArg va_rf (cc_r64_10 F4)) ?_
    refine cd_iload_n (i := 2) d_Desk_tick_29 rfl rfl ?_
    refine cd_callV (kc := kc) (ks := ks) (kc' := 0) (ks' := 0) (As := [.int v2]) (S := []) d_Desk_tick_30 ca_Desk_tick_138 (cc_k80 F4) rfl (Nat.le_of_ble_eq_true rfl) (Nat.le_of_ble_eq_true rfl) ?_
    refine cd_W.mono (fun r6 h7 H => ?_) H
    obtain ⟨o8, rfl, H⟩ := H
    obtain ⟨F9, H⟩ := H
    show cd_W X m_Desk_tick kc ks 33 [some (.ref 64), some (.int v1), some (.int v2), none, none, none] [va_rf o8] h7 Q
    obtain ⟨b10, e11, H⟩ := H
    rw [cd_rfs e11]
    obtain ⟨c12, H⟩ := H
    refine cd_cast d_Desk_tick_33 rfl ⟨kw_2_151, kw_3_208⟩ c12 ?_
    refine cd_astore_n (i := 3) d_Desk_tick_36 rfl (by decide) (cd_isr_ref _) ?_
    show cd_W X m_Desk_tick kc ks 37 [some (.ref 64), some (.int v1), some (.int v2), some (.ref b10), none, none] [] h7 Q
    refine cd_aload_n (i := 0) (v := .ref 64) d_Desk_tick_37 rfl rfl (cd_isr_ref _) ?_
    refine cd_aload_n (i := 3) (v := .ref b10) d_Desk_tick_38 rfl rfl (cd_isr_ref _) ?_
    refine cd_callV (kc := kc) (ks := ks) (kc' := 0) (ks' := 0) (As := [.ref b10]) (S := []) d_Desk_tick_39 ca_Desk_tick_142 (cc_k64 F9) rfl (Nat.le_of_ble_eq_true rfl) (Nat.le_of_ble_eq_true rfl) ?_
    refine cd_W.mono (fun r13 h14 H => ?_) H
    obtain ⟨x15, rfl, H⟩ := H
    obtain ⟨F16, H⟩ := H
    show cd_W X m_Desk_tick kc ks 42 [some (.ref 64), some (.int v1), some (.int v2), some (.ref b10), none, none] [.int x15] h14 Q
    refine cd_iconst (v := 1) d_Desk_tick_42 (by decide) ?_
    refine cd_icmp_eq (tgt := 49) d_Desk_tick_43 (by decide) (fun t17 => ?_) (fun t17 => ?_)
    · replace H := H.1 t17
      refine cd_aload_n (i := 0) (v := .ref 64) d_Desk_tick_49 rfl rfl (cd_isr_ref _) ?_
      refine cd_aload_n (i := 3) (v := .ref b10) d_Desk_tick_50 rfl rfl (cd_isr_ref _) ?_
      refine cd_callV (kc := kc) (ks := ks) (kc' := 0) (ks' := 0) (As := [.ref b10]) (S := []) d_Desk_tick_51 ca_Desk_tick_146 (cc_k64 F16) rfl (Nat.le_of_ble_eq_true rfl) (Nat.le_of_ble_eq_true rfl) ?_
      refine cd_W.mono (fun r18 h19 H => ?_) H
      obtain ⟨x20, rfl, H⟩ := H
      obtain ⟨F21, H⟩ := H
      show cd_W X m_Desk_tick kc ks 54 [some (.ref 64), some (.int v1), some (.int v2), some (.ref b10), none, none] [.int x20] h19 Q
      refine cd_istore (i := 4) d_Desk_tick_54 (by decide) ?_
      show cd_W X m_Desk_tick kc ks 56 [some (.ref 64), some (.int v1), some (.int v2), some (.ref b10), some (.int x20), none] [] h19 Q
      refine cd_aload_n (i := 0) (v := .ref 64) d_Desk_tick_56 rfl rfl (cd_isr_ref _) ?_
      refine cd_iconst (v := 5) d_Desk_tick_57 (by decide) ?_
      refine cd_callV (kc := kc) (ks := ks) (kc' := 0) (ks' := 0) (As := [.int 5]) (S := []) d_Desk_tick_58 ca_Desk_tick_150 (cc_k64 F21) rfl (Nat.le_of_ble_eq_true rfl) (Nat.le_of_ble_eq_true rfl) ?_
      refine cd_W.mono (fun r22 h23 H => ?_) H
      obtain ⟨b24, rfl, H⟩ := H
      obtain ⟨F25, H⟩ := H
      show cd_W X m_Desk_tick kc ks 61 [some (.ref 64), some (.int v1), some (.int v2), some (.ref b10), some (.int x20), none] [.ref b24] h23 Q
      refine cd_astore (i := 5) d_Desk_tick_61 (by decide) (cd_isr_ref _) ?_
      show cd_W X m_Desk_tick kc ks 63 [some (.ref 64), some (.int v1), some (.int v2), some (.ref b10), some (.int x20), some (.ref b24)] [] h23 Q
      refine cd_aload_n (i := 3) (v := .ref b10) d_Desk_tick_63 rfl rfl (cd_isr_ref _) ?_
      refine cd_iconst (v := (-1)) d_Desk_tick_64 (by decide) ?_
      obtain ⟨c26, H⟩ := H
      obtain ⟨c27, H⟩ := H
      refine cd_putI d_Desk_tick_65 fp_Desk_tick_154 (fun _ _ _ => rfl) c26 c27 rfl rfl ?_
      refine cd_aload (i := 5) (v := .ref b24) d_Desk_tick_68 rfl (cd_isr_ref _) ?_
      obtain ⟨c28, H⟩ := H
      refine cd_get (v := .int (cd_i (cd_si h23 b10 7 (-1)) b24 0)) d_Desk_tick_70 fl_Desk_157 c28 rfl ?_
      refine cd_if_eq (tgt := 99) d_Desk_tick_73 (by decide) (fun t29 => ?_) (fun t29 => ?_)
      · replace H := H.1 t29
        refine cd_aload (i := 5) (v := .ref b24) d_Desk_tick_99 rfl (cd_isr_ref _) ?_
        refine cd_get (v := .int (cd_i (cd_si h23 b10 7 (-1)) b24 1)) d_Desk_tick_101 fl_Desk_167 c28 rfl ?_
        refine cd_if_eq (tgt := 109) d_Desk_tick_104 (by decide) (fun t30 => ?_) (fun t30 => ?_)
        · replace H := H.1 t30
          refine cd_iinc (i := 2) (v := (v2 + 1)) d_Desk_tick_109 rfl (cd_inc1 _) (by decide) ?_
          show cd_W X m_Desk_tick kc ks 112 [some (.ref 64), some (.int v1), some (.int (v2 + 1)), some (.ref b10), some (.int x20), some (.ref b24)] [] (cd_si h23 b10 7 (-1)) Q
          refine cd_goto (tgt := 14) d_Desk_tick_112 (by decide) ?_
          refine cd_W.drop (i := 3) ?_
          refine cd_W.drop (i := 4) ?_
          refine cd_W.drop (i := 5) ?_
          exact H
        · replace H := H.2 t30
          refine cd_iload_n (i := 1) d_Desk_tick_107 rfl rfl ?_
          exact cd_iret d_Desk_tick_108 rfl rfl H
      · replace H := H.2 t29
        refine cd_aload_n (i := 3) (v := .ref b10) d_Desk_tick_76 rfl rfl (cd_isr_ref _) ?_
        refine cd_iload (i := 4) d_Desk_tick_77 rfl ?_
        refine cd_aload_n (i := 0) (v := .ref 64) d_Desk_tick_79 rfl rfl (cd_isr_ref _) ?_
        refine cd_get (v := .int (cd_i (cd_si h23 b10 7 (-1)) 64 12)) d_Desk_tick_80 fl_Desk_84 (cc_k64 F25) rfl ?_
        refine cd_callV (kc := kc) (ks := ks) (kc' := 0) (ks' := 0) (As := [.int x20, .int (cd_i (cd_si h23 b10 7 (-1)) 64 12)]) (S := []) d_Desk_tick_83 ca_Desk_tick_163 c26 rfl (Nat.le_of_ble_eq_true rfl) (Nat.le_of_ble_eq_true rfl) ?_
        refine cd_W.mono (fun r31 h32 H => ?_) H
        obtain ⟨rfl, H⟩ := H
        obtain ⟨F33, H⟩ := H
        show cd_W X m_Desk_tick kc ks 86 [some (.ref 64), some (.int v1), some (.int v2), some (.ref b10), some (.int x20), some (.ref b24)] [] h32 Q
        refine cd_iload_n (i := 1) d_Desk_tick_86 rfl rfl ?_
        refine cd_iload (i := 4) d_Desk_tick_87 rfl ?_
        refine cd_if_eq (tgt := 96) d_Desk_tick_89 (by decide) (fun t34 => ?_) (fun t34 => ?_)
        · replace H := H.1 t34
          refine cd_iconst (v := 0) d_Desk_tick_96 (by decide) ?_
          refine cd_iadd d_Desk_tick_97 ?_
          refine cd_istore_n (i := 1) d_Desk_tick_98 rfl (by decide) ?_
          show cd_W X m_Desk_tick kc ks 99 [some (.ref 64), some (.int (v1 + 0)), some (.int v2), some (.ref b10), some (.int x20), some (.ref b24)] [] h32 Q
          refine cd_aload (i := 5) (v := .ref b24) d_Desk_tick_99 rfl (cd_isr_ref _) ?_
          obtain ⟨c35, H⟩ := H
          refine cd_get (v := .int (cd_i h32 b24 1)) d_Desk_tick_101 fl_Desk_167 c35 rfl ?_
          refine cd_if_eq (tgt := 109) d_Desk_tick_104 (by decide) (fun t36 => ?_) (fun t36 => ?_)
          · replace H := H.1 t36
            refine cd_iinc (i := 2) (v := (v2 + 1)) d_Desk_tick_109 rfl (cd_inc1 _) (by decide) ?_
            show cd_W X m_Desk_tick kc ks 112 [some (.ref 64), some (.int (v1 + 0)), some (.int (v2 + 1)), some (.ref b10), some (.int x20), some (.ref b24)] [] h32 Q
            refine cd_goto (tgt := 14) d_Desk_tick_112 (by decide) ?_
            refine cd_W.drop (i := 3) ?_
            refine cd_W.drop (i := 4) ?_
            refine cd_W.drop (i := 5) ?_
            exact H
          · replace H := H.2 t36
            refine cd_iload_n (i := 1) d_Desk_tick_107 rfl rfl ?_
            exact cd_iret d_Desk_tick_108 rfl rfl H
        · replace H := H.2 t34
          refine cd_iconst (v := 1) d_Desk_tick_92 (by decide) ?_
          refine cd_goto (tgt := 97) d_Desk_tick_93 (by decide) ?_
          refine cd_iadd d_Desk_tick_97 ?_
          refine cd_istore_n (i := 1) d_Desk_tick_98 rfl (by decide) ?_
          show cd_W X m_Desk_tick kc ks 99 [some (.ref 64), some (.int (v1 + 1)), some (.int v2), some (.ref b10), some (.int x20), some (.ref b24)] [] h32 Q
          refine cd_aload (i := 5) (v := .ref b24) d_Desk_tick_99 rfl (cd_isr_ref _) ?_
          obtain ⟨c37, H⟩ := H
          refine cd_get (v := .int (cd_i h32 b24 1)) d_Desk_tick_101 fl_Desk_167 c37 rfl ?_
          refine cd_if_eq (tgt := 109) d_Desk_tick_104 (by decide) (fun t38 => ?_) (fun t38 => ?_)
          · replace H := H.1 t38
            refine cd_iinc (i := 2) (v := (v2 + 1)) d_Desk_tick_109 rfl (cd_inc1 _) (by decide) ?_
            show cd_W X m_Desk_tick kc ks 112 [some (.ref 64), some (.int (v1 + 1)), some (.int (v2 + 1)), some (.ref b10), some (.int x20), some (.ref b24)] [] h32 Q
            refine cd_goto (tgt := 14) d_Desk_tick_112 (by decide) ?_
            refine cd_W.drop (i := 3) ?_
            refine cd_W.drop (i := 4) ?_
            refine cd_W.drop (i := 5) ?_
            exact H
          · replace H := H.2 t38
            refine cd_iload_n (i := 1) d_Desk_tick_107 rfl rfl ?_
            exact cd_iret d_Desk_tick_108 rfl rfl H
    · replace H := H.2 t17
      refine cd_goto (tgt := 109) d_Desk_tick_46 (by decide) ?_
      refine cd_iinc (i := 2) (v := (v2 + 1)) d_Desk_tick_109 rfl (cd_inc1 _) (by decide) ?_
      show cd_W X m_Desk_tick kc ks 112 [some (.ref 64), some (.int v1), some (.int (v2 + 1)), some (.ref b10), none, none] [] h14 Q
      refine cd_goto (tgt := 14) d_Desk_tick_112 (by decide) ?_
      refine cd_W.drop (i := 3) ?_
      exact H

abbrev m_Desk_cut : cd_M := (⟨"CertificateDesk", "cut", "(I)Z"⟩, prog_1_method_9_code, 2, some .boolean, 1, 20)
theorem d_Desk_cut_0 : decode prog_1_method_9_code 0 = .ok (.iload_n 1, 1) := by decide +kernel
theorem d_Desk_cut_1 : decode prog_1_method_9_code 1 = .ok (.ifCond .ge 5, 3) := by decide +kernel
theorem d_Desk_cut_6 : decode prog_1_method_9_code 6 = .ok (.aload_n 0, 1) := by decide +kernel
theorem d_Desk_cut_7 : decode prog_1_method_9_code 7 = .ok (.getfield 55, 3) := by decide +kernel
theorem d_Desk_cut_10 : decode prog_1_method_9_code 10 = .ok (.iload_n 1, 1) := by decide +kernel
theorem d_Desk_cut_11 : decode prog_1_method_9_code 11 = .ok (.putfield 170, 3) := by decide +kernel
theorem kw_1_107 : (Jvm.Cond.fieldLink "CertificateDesk" (170 : Nat) "CertificateDesk$Store" "cut" "I") ∈ cd_tbl := tb_1 (List.mem_of_getElem? (i := 107) (by decide +kernel)) (by decide)
theorem fp_Desk_cut_170 {X : cd_E} : cd_FP X m_Desk_cut 170 9 1 .int := cd_FP.of cl_9 rfl rfl (by decide) kw_1_107 (Or.inl rfl) (Or.inl rfl)
theorem d_Desk_cut_14 : decode prog_1_method_9_code 14 = .ok (.iconst 1, 1) := by decide +kernel
theorem d_Desk_cut_15 : decode prog_1_method_9_code 15 = .ok (.ireturn, 1) := by decide +kernel
theorem d_Desk_cut_4 : decode prog_1_method_9_code 4 = .ok (.iconst 0, 1) := by decide +kernel
theorem d_Desk_cut_5 : decode prog_1_method_9_code 5 = .ok (.ireturn, 1) := by decide +kernel
theorem g_Desk_cut {X : cd_E} {kc ks : Nat} {h : cd_H} {Q : Option Value → cd_H → Prop} {p1 : Int32} (F : cc_ok h) (H : (((0 ≤ p1) → (Q (some (.int 1)) (cd_si h 76 1 p1))) ∧ ((¬ 0 ≤ p1) → (Q (some (.int 0)) h)))) : cd_W X m_Desk_cut kc ks 0 [some (.ref 64), some (.int p1)] [] h Q := by
  refine cd_iload_n (i := 1) d_Desk_cut_0 rfl rfl ?_
  refine cd_if_ge (tgt := 6) d_Desk_cut_1 (by decide) (fun t1 => ?_) (fun t1 => ?_)
  · replace H := H.1 t1
    refine cd_aload_n (i := 0) (v := .ref 64) d_Desk_cut_6 rfl rfl (cd_isr_ref _) ?_
    refine cd_get (v := .ref 76) d_Desk_cut_7 fl_Desk_55 (cc_k64 F) (congrArg va_rf (cc_r64_6 F)) ?_
    refine cd_iload_n (i := 1) d_Desk_cut_10 rfl rfl ?_
    refine cd_putI d_Desk_cut_11 fp_Desk_cut_170 (fun _ _ _ => rfl) (cc_k76 F) (by decide) rfl rfl ?_
    refine cd_iconst (v := 1) d_Desk_cut_14 (by decide) ?_
    exact cd_iret d_Desk_cut_15 rfl rfl H
  · replace H := H.2 t1
    refine cd_iconst (v := 0) d_Desk_cut_4 (by decide) ?_
    exact cd_iret d_Desk_cut_5 rfl rfl H

abbrev m_Desk_words : cd_M := (⟨"CertificateDesk", "words", "()I"⟩, prog_1_method_11_code, 1, some .int, 1, 20)
theorem d_Desk_words_0 : decode prog_1_method_11_code 0 = .ok (.aload_n 0, 1) := by decide +kernel
theorem d_Desk_words_1 : decode prog_1_method_11_code 1 = .ok (.getfield 55, 3) := by decide +kernel
theorem d_Desk_words_4 : decode prog_1_method_11_code 4 = .ok (.getfield 176, 3) := by decide +kernel
theorem kw_1_105 : (Jvm.Cond.fieldLink "CertificateDesk" (176 : Nat) "CertificateDesk$Store" "used" "I") ∈ cd_tbl := tb_1 (List.mem_of_getElem? (i := 105) (by decide +kernel)) (by decide)
theorem fl_Desk_176 {X : cd_E} : cd_FL X "CertificateDesk" 176 9 0 .int := cd_FL.of rfl rfl (by decide) kw_1_105 (Or.inl rfl)
theorem d_Desk_words_7 : decode prog_1_method_11_code 7 = .ok (.ireturn, 1) := by decide +kernel
theorem g_Desk_words {X : cd_E} {kc ks : Nat} {h : cd_H} {Q : Option Value → cd_H → Prop}  (F : cc_ok h) (H : Q (some (.int (cd_i h 76 0))) h) : cd_W X m_Desk_words kc ks 0 [some (.ref 64)] [] h Q := by
  refine cd_aload_n (i := 0) (v := .ref 64) d_Desk_words_0 rfl rfl (cd_isr_ref _) ?_
  refine cd_get (v := .ref 76) d_Desk_words_1 fl_Desk_55 (cc_k64 F) (congrArg va_rf (cc_r64_6 F)) ?_
  refine cd_get (v := .int (cd_i h 76 0)) d_Desk_words_4 fl_Desk_176 (cc_k76 F) rfl ?_
  exact cd_iret d_Desk_words_7 rfl rfl H

abbrev m_Desk_account : cd_M := (⟨"CertificateDesk", "account", "(I)I"⟩, prog_1_method_12_code, 3, some .int, 12, 260)
theorem d_Desk_account_0 : decode prog_1_method_12_code 0 = .ok (.aload_n 0, 1) := by decide +kernel
theorem d_Desk_account_1 : decode prog_1_method_12_code 1 = .ok (.iload_n 1, 1) := by decide +kernel
theorem d_Desk_account_2 : decode prog_1_method_12_code 2 = .ok (.invokevirtual 106, 3) := by decide +kernel
theorem ca_Desk_account_106 {X : cd_E} : cd_CV X m_Desk_account m_Desk_accountAt 106 1 0 := ⟨⟨by decide, kw_2_7, kw_1_1, ⟨by decide, by decide, by decide +kernel⟩, by decide, by decide⟩, ⟨_, rfl, rfl⟩, kw_2_6, kp_4, (Or.inl kw_2_4)⟩
theorem d_Desk_account_5 : decode prog_1_method_12_code 5 = .ok (.astore_n 2, 1) := by decide +kernel
theorem d_Desk_account_6 : decode prog_1_method_12_code 6 = .ok (.aload_n 2, 1) := by decide +kernel
theorem d_Desk_account_7 : decode prog_1_method_12_code 7 = .ok (.ifnonnull 5, 3) := by decide +kernel
theorem d_Desk_account_12 : decode prog_1_method_12_code 12 = .ok (.aload_n 2, 1) := by decide +kernel
theorem d_Desk_account_13 : decode prog_1_method_12_code 13 = .ok (.getfield 179, 3) := by decide +kernel
theorem d_Desk_account_16 : decode prog_1_method_12_code 16 = .ok (.ifCond .eq 16, 3) := by decide +kernel
theorem d_Desk_account_32 : decode prog_1_method_12_code 32 = .ok (.aload_n 2, 1) := by decide +kernel
theorem d_Desk_account_33 : decode prog_1_method_12_code 33 = .ok (.getfield 184, 3) := by decide +kernel
theorem d_Desk_account_36 : decode prog_1_method_12_code 36 = .ok (.getfield 187, 3) := by decide +kernel
theorem d_Desk_account_39 : decode prog_1_method_12_code 39 = .ok (.ireturn, 1) := by decide +kernel
theorem d_Desk_account_19 : decode prog_1_method_12_code 19 = .ok (.aload_n 2, 1) := by decide +kernel
theorem d_Desk_account_20 : decode prog_1_method_12_code 20 = .ok (.getfield 184, 3) := by decide +kernel
theorem d_Desk_account_23 : decode prog_1_method_12_code 23 = .ok (.getfield 187, 3) := by decide +kernel
theorem d_Desk_account_26 : decode prog_1_method_12_code 26 = .ok (.bipush 8, 2) := by decide +kernel
theorem d_Desk_account_28 : decode prog_1_method_12_code 28 = .ok (.iadd, 1) := by decide +kernel
theorem d_Desk_account_29 : decode prog_1_method_12_code 29 = .ok (.goto 10, 3) := by decide +kernel
theorem d_Desk_account_10 : decode prog_1_method_12_code 10 = .ok (.iconst (-1), 1) := by decide +kernel
theorem d_Desk_account_11 : decode prog_1_method_12_code 11 = .ok (.ireturn, 1) := by decide +kernel
theorem g_Desk_account {X : cd_E} {kc ks : Nat} {h : cd_H} {Q : Option Value → cd_H → Prop} {p1 : Int32} (F : cc_ok h) (H : cd_W X m_Desk_accountAt 0 0 0 [some (.ref 64), some (.int p1)] [] h (fun r1 h2 => ∃ o3 : Option Nat, r1 = some (va_rf o3) ∧ ((cc_ok h2) ∧ ((((o3 = none) → (Q (some (.int (-1))) h2)) ∧ (∀ b6 : Nat, o3 = some b6 → ((cd_k h2 b6 = some (.inl 1)) ∧ (((((cd_i h2 b6 1) = 0) → ((∃ b9 : Nat, (cd_r h2 b6 0) = some b9 ∧ ((cd_k h2 b9 = some (.inl 4)) ∧ (Q (some (.int (cd_i h2 b9 0))) h2))))) ∧ ((¬ (cd_i h2 b6 1) = 0) → ((∃ b12 : Nat, (cd_r h2 b6 0) = some b12 ∧ ((cd_k h2 b12 = some (.inl 4)) ∧ (Q (some (.int ((cd_i h2 b12 0) + 8))) h2)))))))))))))) : cd_W X m_Desk_account kc ks 0 [some (.ref 64), some (.int p1), none] [] h Q := by
  refine cd_aload_n (i := 0) (v := .ref 64) d_Desk_account_0 rfl rfl (cd_isr_ref _) ?_
  refine cd_iload_n (i := 1) d_Desk_account_1 rfl rfl ?_
  refine cd_callV (kc := kc) (ks := ks) (kc' := 0) (ks' := 0) (As := [.int p1]) (S := []) d_Desk_account_2 ca_Desk_account_106 (cc_k64 F) rfl (Nat.le_of_ble_eq_true rfl) (Nat.le_of_ble_eq_true rfl) ?_
  refine cd_W.mono (fun r1 h2 H => ?_) H
  obtain ⟨o3, rfl, H⟩ := H
  obtain ⟨F4, H⟩ := H
  show cd_W X m_Desk_account kc ks 5 [some (.ref 64), some (.int p1), none] [va_rf o3] h2 Q
  refine cd_astore_n (i := 2) d_Desk_account_5 rfl (by decide) (cd_isr_rf _) ?_
  show cd_W X m_Desk_account kc ks 6 [some (.ref 64), some (.int p1), some (va_rf o3)] [] h2 Q
  refine cd_aload_n (i := 2) (v := va_rf o3) d_Desk_account_6 rfl rfl (cd_isr_rf _) ?_
  refine cd_ifnonnull (r := o3) (tgt := 12) d_Desk_account_7 (by decide) (fun b6 t5 => ?_) (fun t5 => ?_)
  · replace H := H.2 b6 t5
    rw [cd_rfs t5]
    refine cd_aload_n (i := 2) (v := .ref b6) d_Desk_account_12 rfl rfl (cd_isr_ref _) ?_
    obtain ⟨c7, H⟩ := H
    refine cd_get (v := .int (cd_i h2 b6 1)) d_Desk_account_13 fl_Desk_179 c7 rfl ?_
    refine cd_if_eq (tgt := 32) d_Desk_account_16 (by decide) (fun t8 => ?_) (fun t8 => ?_)
    · replace H := H.1 t8
      refine cd_aload_n (i := 2) (v := .ref b6) d_Desk_account_32 rfl rfl (cd_isr_ref _) ?_
      refine cd_get (v := va_rf (cd_r h2 b6 0)) d_Desk_account_33 fl_Desk_184 c7 rfl ?_
      obtain ⟨b9, e10, H⟩ := H
      rw [cd_rfs e10]
      obtain ⟨c11, H⟩ := H
      refine cd_get (v := .int (cd_i h2 b9 0)) d_Desk_account_36 fl_Desk_187 c11 rfl ?_
      exact cd_iret d_Desk_account_39 rfl rfl H
    · replace H := H.2 t8
      refine cd_aload_n (i := 2) (v := .ref b6) d_Desk_account_19 rfl rfl (cd_isr_ref _) ?_
      refine cd_get (v := va_rf (cd_r h2 b6 0)) d_Desk_account_20 fl_Desk_184 c7 rfl ?_
      obtain ⟨b12, e13, H⟩ := H
      rw [cd_rfs e13]
      obtain ⟨c14, H⟩ := H
      refine cd_get (v := .int (cd_i h2 b12 0)) d_Desk_account_23 fl_Desk_187 c14 rfl ?_
      refine cd_bipush (v := 8) d_Desk_account_26 (by decide) ?_
      refine cd_iadd d_Desk_account_28 ?_
      refine cd_goto (tgt := 39) d_Desk_account_29 (by decide) ?_
      exact cd_iret d_Desk_account_39 rfl rfl H
  · replace H := H.1 t5
    rw [cd_rfn t5]
    refine cd_iconst (v := (-1)) d_Desk_account_10 (by decide) ?_
    exact cd_iret d_Desk_account_11 rfl rfl H

abbrev m_Desk_order : cd_M := (⟨"CertificateDesk", "order", "(I)I"⟩, prog_1_method_13_code, 3, some .int, 12, 263)
theorem d_Desk_order_0 : decode prog_1_method_13_code 0 = .ok (.aload_n 0, 1) := by decide +kernel
theorem d_Desk_order_1 : decode prog_1_method_13_code 1 = .ok (.iload_n 1, 1) := by decide +kernel
theorem d_Desk_order_2 : decode prog_1_method_13_code 2 = .ok (.invokevirtual 190, 3) := by decide +kernel
theorem ca_Desk_order_190 {X : cd_E} : cd_CV X m_Desk_order m_Desk_orderAt 190 1 0 := ⟨⟨by decide, kw_4_45, kw_1_1, ⟨by decide, by decide, by decide +kernel⟩, by decide, by decide⟩, ⟨_, rfl, rfl⟩, kw_4_44, kp_26, (Or.inl kw_4_42)⟩
theorem d_Desk_order_5 : decode prog_1_method_13_code 5 = .ok (.astore_n 2, 1) := by decide +kernel
theorem d_Desk_order_6 : decode prog_1_method_13_code 6 = .ok (.aload_n 2, 1) := by decide +kernel
theorem d_Desk_order_7 : decode prog_1_method_13_code 7 = .ok (.ifnonnull 7, 3) := by decide +kernel
theorem d_Desk_order_14 : decode prog_1_method_13_code 14 = .ok (.aload_n 0, 1) := by decide +kernel
theorem d_Desk_order_15 : decode prog_1_method_13_code 15 = .ok (.aload_n 2, 1) := by decide +kernel
theorem d_Desk_order_16 : decode prog_1_method_13_code 16 = .ok (.invokevirtual 194, 3) := by decide +kernel
theorem ca_Desk_order_194 {X : cd_E} : cd_CV X m_Desk_order m_Desk_orderState 194 1 0 := ⟨⟨by decide, kw_4_49, kw_1_1, ⟨by decide, by decide, by decide +kernel⟩, by decide, by decide⟩, ⟨_, rfl, rfl⟩, kw_4_48, kp_27, (Or.inl kw_4_46)⟩
theorem d_Desk_order_19 : decode prog_1_method_13_code 19 = .ok (.ireturn, 1) := by decide +kernel
theorem d_Desk_order_10 : decode prog_1_method_13_code 10 = .ok (.iconst (-1), 1) := by decide +kernel
theorem d_Desk_order_11 : decode prog_1_method_13_code 11 = .ok (.goto 8, 3) := by decide +kernel
theorem g_Desk_order {X : cd_E} {kc ks : Nat} {h : cd_H} {Q : Option Value → cd_H → Prop} {p1 : Int32} (F : cc_ok h) (H : cd_W X m_Desk_orderAt 0 0 0 [some (.ref 64), some (.int p1)] [] h (fun r1 h2 => ∃ o3 : Option Nat, r1 = some (va_rf o3) ∧ ((cc_ok h2) ∧ ((((o3 = none) → (Q (some (.int (-1))) h2)) ∧ (∀ b6 : Nat, o3 = some b6 → (cd_W X m_Desk_orderState 0 0 0 [some (.ref 64), some (.ref b6), none, none, none] [] h2 (fun r7 h8 => ∃ x9 : Int32, r7 = some (.int x9) ∧ ((cc_ok h8) ∧ (Q (some (.int x9)) h8)))))))))) : cd_W X m_Desk_order kc ks 0 [some (.ref 64), some (.int p1), none] [] h Q := by
  refine cd_aload_n (i := 0) (v := .ref 64) d_Desk_order_0 rfl rfl (cd_isr_ref _) ?_
  refine cd_iload_n (i := 1) d_Desk_order_1 rfl rfl ?_
  refine cd_callV (kc := kc) (ks := ks) (kc' := 0) (ks' := 0) (As := [.int p1]) (S := []) d_Desk_order_2 ca_Desk_order_190 (cc_k64 F) rfl (Nat.le_of_ble_eq_true rfl) (Nat.le_of_ble_eq_true rfl) ?_
  refine cd_W.mono (fun r1 h2 H => ?_) H
  obtain ⟨o3, rfl, H⟩ := H
  obtain ⟨F4, H⟩ := H
  show cd_W X m_Desk_order kc ks 5 [some (.ref 64), some (.int p1), none] [va_rf o3] h2 Q
  refine cd_astore_n (i := 2) d_Desk_order_5 rfl (by decide) (cd_isr_rf _) ?_
  show cd_W X m_Desk_order kc ks 6 [some (.ref 64), some (.int p1), some (va_rf o3)] [] h2 Q
  refine cd_aload_n (i := 2) (v := va_rf o3) d_Desk_order_6 rfl rfl (cd_isr_rf _) ?_
  refine cd_ifnonnull (r := o3) (tgt := 14) d_Desk_order_7 (by decide) (fun b6 t5 => ?_) (fun t5 => ?_)
  · replace H := H.2 b6 t5
    rw [cd_rfs t5]
    refine cd_aload_n (i := 0) (v := .ref 64) d_Desk_order_14 rfl rfl (cd_isr_ref _) ?_
    refine cd_aload_n (i := 2) (v := .ref b6) d_Desk_order_15 rfl rfl (cd_isr_ref _) ?_
    refine cd_callV (kc := kc) (ks := ks) (kc' := 0) (ks' := 0) (As := [.ref b6]) (S := []) d_Desk_order_16 ca_Desk_order_194 (cc_k64 F4) rfl (Nat.le_of_ble_eq_true rfl) (Nat.le_of_ble_eq_true rfl) ?_
    refine cd_W.mono (fun r7 h8 H => ?_) H
    obtain ⟨x9, rfl, H⟩ := H
    obtain ⟨F10, H⟩ := H
    show cd_W X m_Desk_order kc ks 19 [some (.ref 64), some (.int p1), some (.ref b6)] [.int x9] h8 Q
    exact cd_iret d_Desk_order_19 rfl rfl H
  · replace H := H.1 t5
    rw [cd_rfn t5]
    refine cd_iconst (v := (-1)) d_Desk_order_10 (by decide) ?_
    refine cd_goto (tgt := 19) d_Desk_order_11 (by decide) ?_
    exact cd_iret d_Desk_order_19 rfl rfl H

abbrev m_Desk_authorization : cd_M := (⟨"CertificateDesk", "authorization", "(II)I"⟩, prog_1_method_14_code, 4, some .int, 12, 260)
theorem d_Desk_authorization_0 : decode prog_1_method_14_code 0 = .ok (.aload_n 0, 1) := by decide +kernel
theorem d_Desk_authorization_1 : decode prog_1_method_14_code 1 = .ok (.iload_n 1, 1) := by decide +kernel
theorem d_Desk_authorization_2 : decode prog_1_method_14_code 2 = .ok (.invokevirtual 190, 3) := by decide +kernel
theorem ca_Desk_authorization_190 {X : cd_E} : cd_CV X m_Desk_authorization m_Desk_orderAt 190 1 0 := ⟨⟨by decide, kw_4_45, kw_1_1, ⟨by decide, by decide, by decide +kernel⟩, by decide, by decide⟩, ⟨_, rfl, rfl⟩, kw_4_44, kp_26, (Or.inl kw_4_42)⟩
theorem d_Desk_authorization_5 : decode prog_1_method_14_code 5 = .ok (.astore_n 3, 1) := by decide +kernel
theorem d_Desk_authorization_6 : decode prog_1_method_14_code 6 = .ok (.aload_n 3, 1) := by decide +kernel
theorem d_Desk_authorization_7 : decode prog_1_method_14_code 7 = .ok (.ifnull 18, 3) := by decide +kernel
theorem d_Desk_authorization_25 : decode prog_1_method_14_code 25 = .ok (.iconst (-1), 1) := by decide +kernel
theorem d_Desk_authorization_26 : decode prog_1_method_14_code 26 = .ok (.ireturn, 1) := by decide +kernel
theorem d_Desk_authorization_10 : decode prog_1_method_14_code 10 = .ok (.iload_n 2, 1) := by decide +kernel
theorem d_Desk_authorization_11 : decode prog_1_method_14_code 11 = .ok (.ifCond .lt 14, 3) := by decide +kernel
theorem d_Desk_authorization_14 : decode prog_1_method_14_code 14 = .ok (.iload_n 2, 1) := by decide +kernel
theorem d_Desk_authorization_15 : decode prog_1_method_14_code 15 = .ok (.aload_n 3, 1) := by decide +kernel
theorem d_Desk_authorization_16 : decode prog_1_method_14_code 16 = .ok (.getfield 198, 3) := by decide +kernel
theorem d_Desk_authorization_19 : decode prog_1_method_14_code 19 = .ok (.invokevirtual 135, 3) := by decide +kernel
theorem ca_Desk_authorization_135 {X : cd_E} : cd_CV X m_Desk_authorization m_AL_size 135 0 12 := ⟨⟨by decide, kw_2_11, kw_1_9, ⟨by decide, by decide, by decide +kernel⟩, by decide, by decide⟩, ⟨_, rfl, rfl⟩, kw_2_9, kw_2_10, (Or.inl kw_2_8)⟩
theorem d_Desk_authorization_22 : decode prog_1_method_14_code 22 = .ok (.if_icmp .lt 5, 3) := by decide +kernel
theorem d_Desk_authorization_27 : decode prog_1_method_14_code 27 = .ok (.aload_n 3, 1) := by decide +kernel
theorem d_Desk_authorization_28 : decode prog_1_method_14_code 28 = .ok (.getfield 198, 3) := by decide +kernel
theorem d_Desk_authorization_31 : decode prog_1_method_14_code 31 = .ok (.iload_n 2, 1) := by decide +kernel
theorem d_Desk_authorization_32 : decode prog_1_method_14_code 32 = .ok (.invokevirtual 138, 3) := by decide +kernel
theorem ca_Desk_authorization_138 {X : cd_E} : cd_CV X m_Desk_authorization m_AL_get 138 1 12 := ⟨⟨by decide, kw_2_15, kw_1_9, ⟨by decide, by decide, by decide +kernel⟩, by decide, by decide⟩, ⟨_, rfl, rfl⟩, kw_2_13, kw_2_14, (Or.inl kw_2_12)⟩
theorem d_Desk_authorization_35 : decode prog_1_method_14_code 35 = .ok (.checkcast 130, 3) := by decide +kernel
theorem d_Desk_authorization_38 : decode prog_1_method_14_code 38 = .ok (.getfield 203, 3) := by decide +kernel
theorem kw_3_226 : (Jvm.Cond.fieldLink "CertificateDesk" (203 : Nat) "CertificateDesk$Authorization" "number" "I") ∈ cd_tbl := tb_3 (List.mem_of_getElem? (i := 226) (by decide +kernel)) (by decide)
theorem fl_Desk_203 {X : cd_E} : cd_FL X "CertificateDesk" 203 2 0 .int := cd_FL.of rfl rfl (by decide) kw_3_226 (Or.inl rfl)
theorem d_Desk_authorization_41 : decode prog_1_method_14_code 41 = .ok (.ireturn, 1) := by decide +kernel
theorem g_Desk_authorization {X : cd_E} {kc ks : Nat} {h : cd_H} {Q : Option Value → cd_H → Prop} {p1 : Int32} {p2 : Int32} (F : cc_ok h) (H : cd_W X m_Desk_orderAt 0 0 0 [some (.ref 64), some (.int p1)] [] h (fun r1 h2 => ∃ o3 : Option Nat, r1 = some (va_rf o3) ∧ ((cc_ok h2) ∧ ((((o3 = none) → (Q (some (.int (-1))) h2)) ∧ (∀ b6 : Nat, o3 = some b6 → ((((p2 < 0) → (Q (some (.int (-1))) h2)) ∧ ((¬ p2 < 0) → ((cd_k h2 b6 = some (.inl 8)) ∧ ((∃ b9 : Nat, (cd_r h2 b6 2) = some b9 ∧ ((cd_k h2 b9 = some (.inl 12)) ∧ (cd_W X m_AL_size 0 0 0 [some (.ref b9)] [] h2 (fun r12 h13 => ∃ x14 : Int32, r12 = some (.int x14) ∧ ((cc_ok h13) ∧ ((((p2 < x14) → ((cd_k h13 b6 = some (.inl 8)) ∧ ((∃ b18 : Nat, (cd_r h13 b6 2) = some b18 ∧ ((cd_k h13 b18 = some (.inl 12)) ∧ (cd_W X m_AL_get 0 0 0 [some (.ref b18), some (.int p2)] [] h13 (fun r21 h22 => ∃ o23 : Option Nat, r21 = some (va_rf o23) ∧ ((cc_ok h22) ∧ ((∃ b25 : Nat, o23 = some b25 ∧ ((cd_k h22 b25 = some (.inl 2)) ∧ (Q (some (.int (cd_i h22 b25 0))) h22)))))))))))) ∧ ((¬ p2 < x14) → (Q (some (.int (-1))) h13)))))))))))))))))))) : cd_W X m_Desk_authorization kc ks 0 [some (.ref 64), some (.int p1), some (.int p2), none] [] h Q := by
  refine cd_aload_n (i := 0) (v := .ref 64) d_Desk_authorization_0 rfl rfl (cd_isr_ref _) ?_
  refine cd_iload_n (i := 1) d_Desk_authorization_1 rfl rfl ?_
  refine cd_callV (kc := kc) (ks := ks) (kc' := 0) (ks' := 0) (As := [.int p1]) (S := []) d_Desk_authorization_2 ca_Desk_authorization_190 (cc_k64 F) rfl (Nat.le_of_ble_eq_true rfl) (Nat.le_of_ble_eq_true rfl) ?_
  refine cd_W.mono (fun r1 h2 H => ?_) H
  obtain ⟨o3, rfl, H⟩ := H
  obtain ⟨F4, H⟩ := H
  show cd_W X m_Desk_authorization kc ks 5 [some (.ref 64), some (.int p1), some (.int p2), none] [va_rf o3] h2 Q
  refine cd_astore_n (i := 3) d_Desk_authorization_5 rfl (by decide) (cd_isr_rf _) ?_
  show cd_W X m_Desk_authorization kc ks 6 [some (.ref 64), some (.int p1), some (.int p2), some (va_rf o3)] [] h2 Q
  refine cd_aload_n (i := 3) (v := va_rf o3) d_Desk_authorization_6 rfl rfl (cd_isr_rf _) ?_
  refine cd_ifnull (r := o3) (tgt := 25) d_Desk_authorization_7 (by decide) (fun t5 => ?_) (fun b6 t5 => ?_)
  · replace H := H.1 t5
    rw [cd_rfn t5]
    refine cd_iconst (v := (-1)) d_Desk_authorization_25 (by decide) ?_
    exact cd_iret d_Desk_authorization_26 rfl rfl H
  · replace H := H.2 b6 t5
    rw [cd_rfs t5]
    refine cd_iload_n (i := 2) d_Desk_authorization_10 rfl rfl ?_
    refine cd_if_lt (tgt := 25) d_Desk_authorization_11 (by decide) (fun t7 => ?_) (fun t7 => ?_)
    · replace H := H.1 t7
      refine cd_iconst (v := (-1)) d_Desk_authorization_25 (by decide) ?_
      exact cd_iret d_Desk_authorization_26 rfl rfl H
    · replace H := H.2 t7
      refine cd_iload_n (i := 2) d_Desk_authorization_14 rfl rfl ?_
      refine cd_aload_n (i := 3) (v := .ref b6) d_Desk_authorization_15 rfl rfl (cd_isr_ref _) ?_
      obtain ⟨c8, H⟩ := H
      refine cd_get (v := va_rf (cd_r h2 b6 2)) d_Desk_authorization_16 fl_Desk_198 c8 rfl ?_
      obtain ⟨b9, e10, H⟩ := H
      rw [cd_rfs e10]
      obtain ⟨c11, H⟩ := H
      refine cd_callV (kc := kc) (ks := ks) (kc' := 0) (ks' := 0) (As := []) (S := [.int p2]) d_Desk_authorization_19 ca_Desk_authorization_135 c11 rfl (Nat.le_of_ble_eq_true rfl) (Nat.le_of_ble_eq_true rfl) ?_
      refine cd_W.mono (fun r12 h13 H => ?_) H
      obtain ⟨x14, rfl, H⟩ := H
      obtain ⟨F15, H⟩ := H
      show cd_W X m_Desk_authorization kc ks 22 [some (.ref 64), some (.int p1), some (.int p2), some (.ref b6)] [.int x14, .int p2] h13 Q
      refine cd_icmp_lt (tgt := 27) d_Desk_authorization_22 (by decide) (fun t16 => ?_) (fun t16 => ?_)
      · replace H := H.1 t16
        refine cd_aload_n (i := 3) (v := .ref b6) d_Desk_authorization_27 rfl rfl (cd_isr_ref _) ?_
        obtain ⟨c17, H⟩ := H
        refine cd_get (v := va_rf (cd_r h13 b6 2)) d_Desk_authorization_28 fl_Desk_198 c17 rfl ?_
        refine cd_iload_n (i := 2) d_Desk_authorization_31 rfl rfl ?_
        obtain ⟨b18, e19, H⟩ := H
        rw [cd_rfs e19]
        obtain ⟨c20, H⟩ := H
        refine cd_callV (kc := kc) (ks := ks) (kc' := 0) (ks' := 0) (As := [.int p2]) (S := []) d_Desk_authorization_32 ca_Desk_authorization_138 c20 rfl (Nat.le_of_ble_eq_true rfl) (Nat.le_of_ble_eq_true rfl) ?_
        refine cd_W.mono (fun r21 h22 H => ?_) H
        obtain ⟨o23, rfl, H⟩ := H
        obtain ⟨F24, H⟩ := H
        show cd_W X m_Desk_authorization kc ks 35 [some (.ref 64), some (.int p1), some (.int p2), some (.ref b6)] [va_rf o23] h22 Q
        obtain ⟨b25, e26, H⟩ := H
        rw [cd_rfs e26]
        obtain ⟨c27, H⟩ := H
        refine cd_cast d_Desk_authorization_35 rfl ⟨kw_2_151, kw_3_208⟩ c27 ?_
        refine cd_get (v := .int (cd_i h22 b25 0)) d_Desk_authorization_38 fl_Desk_203 c27 rfl ?_
        exact cd_iret d_Desk_authorization_41 rfl rfl H
      · replace H := H.2 t16
        refine cd_iconst (v := (-1)) d_Desk_authorization_25 (by decide) ?_
        exact cd_iret d_Desk_authorization_26 rfl rfl H

abbrev m_Desk_state : cd_M := (⟨"CertificateDesk", "state", "(I)I"⟩, prog_1_method_15_code, 3, some .int, 12, 260)
theorem d_Desk_state_0 : decode prog_1_method_15_code 0 = .ok (.aload_n 0, 1) := by decide +kernel
theorem d_Desk_state_1 : decode prog_1_method_15_code 1 = .ok (.iload_n 1, 1) := by decide +kernel
theorem d_Desk_state_2 : decode prog_1_method_15_code 2 = .ok (.invokevirtual 117, 3) := by decide +kernel
theorem ca_Desk_state_117 {X : cd_E} : cd_CV X m_Desk_state m_Desk_authorizationAt 117 1 0 := ⟨⟨by decide, kw_4_34, kw_1_1, ⟨by decide, by decide, by decide +kernel⟩, by decide, by decide⟩, ⟨_, rfl, rfl⟩, kw_4_33, kp_24, (Or.inl kw_4_31)⟩
theorem d_Desk_state_5 : decode prog_1_method_15_code 5 = .ok (.astore_n 2, 1) := by decide +kernel
theorem d_Desk_state_6 : decode prog_1_method_15_code 6 = .ok (.aload_n 2, 1) := by decide +kernel
theorem d_Desk_state_7 : decode prog_1_method_15_code 7 = .ok (.ifnonnull 7, 3) := by decide +kernel
theorem d_Desk_state_14 : decode prog_1_method_15_code 14 = .ok (.aload_n 0, 1) := by decide +kernel
theorem d_Desk_state_15 : decode prog_1_method_15_code 15 = .ok (.aload_n 2, 1) := by decide +kernel
theorem d_Desk_state_16 : decode prog_1_method_15_code 16 = .ok (.invokevirtual 142, 3) := by decide +kernel
theorem ca_Desk_state_142 {X : cd_E} : cd_CV X m_Desk_state m_Desk_authorizationState 142 1 0 := ⟨⟨by decide, kw_3_26, kw_1_1, ⟨by decide, by decide, by decide +kernel⟩, by decide, by decide⟩, ⟨_, rfl, rfl⟩, kw_3_25, kp_20, (Or.inl kw_3_23)⟩
theorem d_Desk_state_19 : decode prog_1_method_15_code 19 = .ok (.ireturn, 1) := by decide +kernel
theorem d_Desk_state_10 : decode prog_1_method_15_code 10 = .ok (.iconst (-1), 1) := by decide +kernel
theorem d_Desk_state_11 : decode prog_1_method_15_code 11 = .ok (.goto 8, 3) := by decide +kernel
theorem g_Desk_state {X : cd_E} {kc ks : Nat} {h : cd_H} {Q : Option Value → cd_H → Prop} {p1 : Int32} (F : cc_ok h) (H : cd_W X m_Desk_authorizationAt 0 0 0 [some (.ref 64), some (.int p1)] [] h (fun r1 h2 => ∃ o3 : Option Nat, r1 = some (va_rf o3) ∧ ((cc_ok h2) ∧ ((((o3 = none) → (Q (some (.int (-1))) h2)) ∧ (∀ b6 : Nat, o3 = some b6 → (cd_W X m_Desk_authorizationState 0 0 0 [some (.ref 64), some (.ref b6)] [] h2 (fun r7 h8 => ∃ x9 : Int32, r7 = some (.int x9) ∧ ((cc_ok h8) ∧ (Q (some (.int x9)) h8)))))))))) : cd_W X m_Desk_state kc ks 0 [some (.ref 64), some (.int p1), none] [] h Q := by
  refine cd_aload_n (i := 0) (v := .ref 64) d_Desk_state_0 rfl rfl (cd_isr_ref _) ?_
  refine cd_iload_n (i := 1) d_Desk_state_1 rfl rfl ?_
  refine cd_callV (kc := kc) (ks := ks) (kc' := 0) (ks' := 0) (As := [.int p1]) (S := []) d_Desk_state_2 ca_Desk_state_117 (cc_k64 F) rfl (Nat.le_of_ble_eq_true rfl) (Nat.le_of_ble_eq_true rfl) ?_
  refine cd_W.mono (fun r1 h2 H => ?_) H
  obtain ⟨o3, rfl, H⟩ := H
  obtain ⟨F4, H⟩ := H
  show cd_W X m_Desk_state kc ks 5 [some (.ref 64), some (.int p1), none] [va_rf o3] h2 Q
  refine cd_astore_n (i := 2) d_Desk_state_5 rfl (by decide) (cd_isr_rf _) ?_
  show cd_W X m_Desk_state kc ks 6 [some (.ref 64), some (.int p1), some (va_rf o3)] [] h2 Q
  refine cd_aload_n (i := 2) (v := va_rf o3) d_Desk_state_6 rfl rfl (cd_isr_rf _) ?_
  refine cd_ifnonnull (r := o3) (tgt := 14) d_Desk_state_7 (by decide) (fun b6 t5 => ?_) (fun t5 => ?_)
  · replace H := H.2 b6 t5
    rw [cd_rfs t5]
    refine cd_aload_n (i := 0) (v := .ref 64) d_Desk_state_14 rfl rfl (cd_isr_ref _) ?_
    refine cd_aload_n (i := 2) (v := .ref b6) d_Desk_state_15 rfl rfl (cd_isr_ref _) ?_
    refine cd_callV (kc := kc) (ks := ks) (kc' := 0) (ks' := 0) (As := [.ref b6]) (S := []) d_Desk_state_16 ca_Desk_state_142 (cc_k64 F4) rfl (Nat.le_of_ble_eq_true rfl) (Nat.le_of_ble_eq_true rfl) ?_
    refine cd_W.mono (fun r7 h8 H => ?_) H
    obtain ⟨x9, rfl, H⟩ := H
    obtain ⟨F10, H⟩ := H
    show cd_W X m_Desk_state kc ks 19 [some (.ref 64), some (.int p1), some (.ref b6)] [.int x9] h8 Q
    exact cd_iret d_Desk_state_19 rfl rfl H
  · replace H := H.1 t5
    rw [cd_rfn t5]
    refine cd_iconst (v := (-1)) d_Desk_state_10 (by decide) ?_
    refine cd_goto (tgt := 19) d_Desk_state_11 (by decide) ?_
    exact cd_iret d_Desk_state_19 rfl rfl H

abbrev m_Desk_token : cd_M := (⟨"CertificateDesk", "token", "(I)I"⟩, prog_1_method_16_code, 3, some .int, 29, 635)
theorem d_Desk_token_0 : decode prog_1_method_16_code 0 = .ok (.aload_n 0, 1) := by decide +kernel
theorem d_Desk_token_1 : decode prog_1_method_16_code 1 = .ok (.iload_n 1, 1) := by decide +kernel
theorem d_Desk_token_2 : decode prog_1_method_16_code 2 = .ok (.invokevirtual 117, 3) := by decide +kernel
theorem ca_Desk_token_117 {X : cd_E} : cd_CV X m_Desk_token m_Desk_authorizationAt 117 1 0 := ⟨⟨by decide, kw_4_34, kw_1_1, ⟨by decide, by decide, by decide +kernel⟩, by decide, by decide⟩, ⟨_, rfl, rfl⟩, kw_4_33, kp_24, (Or.inl kw_4_31)⟩
theorem d_Desk_token_5 : decode prog_1_method_16_code 5 = .ok (.astore_n 2, 1) := by decide +kernel
theorem d_Desk_token_6 : decode prog_1_method_16_code 6 = .ok (.aload_n 2, 1) := by decide +kernel
theorem d_Desk_token_7 : decode prog_1_method_16_code 7 = .ok (.ifnonnull 7, 3) := by decide +kernel
theorem d_Desk_token_14 : decode prog_1_method_16_code 14 = .ok (.aload_n 2, 1) := by decide +kernel
theorem d_Desk_token_15 : decode prog_1_method_16_code 15 = .ok (.invokevirtual 204, 3) := by decide +kernel
theorem kw_4_235 : (Jvm.Cond.methodLink "CertificateDesk" (204 : Nat) ({ cls := "CertificateDesk$Authorization", name := "tokenDigest", desc := "()I" } : Jvm.MethodName)) ∈ cd_tbl := tb_4 (List.mem_of_getElem? (i := 235) (by decide +kernel)) (by decide)
theorem ca_Desk_token_204 {X : cd_E} : cd_CV X m_Desk_token m_Aut_tokenDigest 204 0 2 := ⟨⟨by decide, kw_4_176, kw_1_26, ⟨by decide, by decide, by decide +kernel⟩, by decide, by decide⟩, ⟨_, rfl, rfl⟩, kw_4_174, kw_4_175, (Or.inl kw_4_235)⟩
theorem d_Desk_token_18 : decode prog_1_method_16_code 18 = .ok (.ireturn, 1) := by decide +kernel
theorem d_Desk_token_10 : decode prog_1_method_16_code 10 = .ok (.iconst (-1), 1) := by decide +kernel
theorem d_Desk_token_11 : decode prog_1_method_16_code 11 = .ok (.goto 7, 3) := by decide +kernel
theorem g_Desk_token {X : cd_E} {kc ks : Nat} {h : cd_H} {Q : Option Value → cd_H → Prop} {p1 : Int32} (F : cc_ok h) (H : cd_W X m_Desk_authorizationAt 0 0 0 [some (.ref 64), some (.int p1)] [] h (fun r1 h2 => ∃ o3 : Option Nat, r1 = some (va_rf o3) ∧ ((cc_ok h2) ∧ ((((o3 = none) → (Q (some (.int (-1))) h2)) ∧ (∀ b6 : Nat, o3 = some b6 → ((cd_k h2 b6 = some (.inl 2)) ∧ (cd_W X m_Aut_tokenDigest 0 0 0 [some (.ref b6), none] [] h2 (fun r8 h9 => ∃ x10 : Int32, r8 = some (.int x10) ∧ ((cc_ok h9) ∧ (Q (some (.int x10)) h9))))))))))) : cd_W X m_Desk_token kc ks 0 [some (.ref 64), some (.int p1), none] [] h Q := by
  refine cd_aload_n (i := 0) (v := .ref 64) d_Desk_token_0 rfl rfl (cd_isr_ref _) ?_
  refine cd_iload_n (i := 1) d_Desk_token_1 rfl rfl ?_
  refine cd_callV (kc := kc) (ks := ks) (kc' := 0) (ks' := 0) (As := [.int p1]) (S := []) d_Desk_token_2 ca_Desk_token_117 (cc_k64 F) rfl (Nat.le_of_ble_eq_true rfl) (Nat.le_of_ble_eq_true rfl) ?_
  refine cd_W.mono (fun r1 h2 H => ?_) H
  obtain ⟨o3, rfl, H⟩ := H
  obtain ⟨F4, H⟩ := H
  show cd_W X m_Desk_token kc ks 5 [some (.ref 64), some (.int p1), none] [va_rf o3] h2 Q
  refine cd_astore_n (i := 2) d_Desk_token_5 rfl (by decide) (cd_isr_rf _) ?_
  show cd_W X m_Desk_token kc ks 6 [some (.ref 64), some (.int p1), some (va_rf o3)] [] h2 Q
  refine cd_aload_n (i := 2) (v := va_rf o3) d_Desk_token_6 rfl rfl (cd_isr_rf _) ?_
  refine cd_ifnonnull (r := o3) (tgt := 14) d_Desk_token_7 (by decide) (fun b6 t5 => ?_) (fun t5 => ?_)
  · replace H := H.2 b6 t5
    rw [cd_rfs t5]
    refine cd_aload_n (i := 2) (v := .ref b6) d_Desk_token_14 rfl rfl (cd_isr_ref _) ?_
    obtain ⟨c7, H⟩ := H
    refine cd_callV (kc := kc) (ks := ks) (kc' := 0) (ks' := 0) (As := []) (S := []) d_Desk_token_15 ca_Desk_token_204 c7 rfl (Nat.le_of_ble_eq_true rfl) (Nat.le_of_ble_eq_true rfl) ?_
    refine cd_W.mono (fun r8 h9 H => ?_) H
    obtain ⟨x10, rfl, H⟩ := H
    obtain ⟨F11, H⟩ := H
    show cd_W X m_Desk_token kc ks 18 [some (.ref 64), some (.int p1), some (.ref b6)] [.int x10] h9 Q
    exact cd_iret d_Desk_token_18 rfl rfl H
  · replace H := H.1 t5
    rw [cd_rfn t5]
    refine cd_iconst (v := (-1)) d_Desk_token_10 (by decide) ?_
    refine cd_goto (tgt := 18) d_Desk_token_11 (by decide) ?_
    exact cd_iret d_Desk_token_18 rfl rfl H

abbrev m_Desk_serial : cd_M := (⟨"CertificateDesk", "serial", "(I)I"⟩, prog_1_method_17_code, 3, some .int, 12, 260)
theorem d_Desk_serial_0 : decode prog_1_method_17_code 0 = .ok (.aload_n 0, 1) := by decide +kernel
theorem d_Desk_serial_1 : decode prog_1_method_17_code 1 = .ok (.iload_n 1, 1) := by decide +kernel
theorem d_Desk_serial_2 : decode prog_1_method_17_code 2 = .ok (.invokevirtual 190, 3) := by decide +kernel
theorem ca_Desk_serial_190 {X : cd_E} : cd_CV X m_Desk_serial m_Desk_orderAt 190 1 0 := ⟨⟨by decide, kw_4_45, kw_1_1, ⟨by decide, by decide, by decide +kernel⟩, by decide, by decide⟩, ⟨_, rfl, rfl⟩, kw_4_44, kp_26, (Or.inl kw_4_42)⟩
theorem d_Desk_serial_5 : decode prog_1_method_17_code 5 = .ok (.astore_n 2, 1) := by decide +kernel
theorem d_Desk_serial_6 : decode prog_1_method_17_code 6 = .ok (.aload_n 2, 1) := by decide +kernel
theorem d_Desk_serial_7 : decode prog_1_method_17_code 7 = .ok (.ifnonnull 7, 3) := by decide +kernel
theorem d_Desk_serial_14 : decode prog_1_method_17_code 14 = .ok (.aload_n 2, 1) := by decide +kernel
theorem d_Desk_serial_15 : decode prog_1_method_17_code 15 = .ok (.getfield 207, 3) := by decide +kernel
theorem d_Desk_serial_18 : decode prog_1_method_17_code 18 = .ok (.ireturn, 1) := by decide +kernel
theorem d_Desk_serial_10 : decode prog_1_method_17_code 10 = .ok (.iconst (-1), 1) := by decide +kernel
theorem d_Desk_serial_11 : decode prog_1_method_17_code 11 = .ok (.goto 7, 3) := by decide +kernel
theorem g_Desk_serial {X : cd_E} {kc ks : Nat} {h : cd_H} {Q : Option Value → cd_H → Prop} {p1 : Int32} (F : cc_ok h) (H : cd_W X m_Desk_orderAt 0 0 0 [some (.ref 64), some (.int p1)] [] h (fun r1 h2 => ∃ o3 : Option Nat, r1 = some (va_rf o3) ∧ ((cc_ok h2) ∧ ((((o3 = none) → (Q (some (.int (-1))) h2)) ∧ (∀ b6 : Nat, o3 = some b6 → ((cd_k h2 b6 = some (.inl 8)) ∧ (Q (some (.int (cd_i h2 b6 3))) h2)))))))) : cd_W X m_Desk_serial kc ks 0 [some (.ref 64), some (.int p1), none] [] h Q := by
  refine cd_aload_n (i := 0) (v := .ref 64) d_Desk_serial_0 rfl rfl (cd_isr_ref _) ?_
  refine cd_iload_n (i := 1) d_Desk_serial_1 rfl rfl ?_
  refine cd_callV (kc := kc) (ks := ks) (kc' := 0) (ks' := 0) (As := [.int p1]) (S := []) d_Desk_serial_2 ca_Desk_serial_190 (cc_k64 F) rfl (Nat.le_of_ble_eq_true rfl) (Nat.le_of_ble_eq_true rfl) ?_
  refine cd_W.mono (fun r1 h2 H => ?_) H
  obtain ⟨o3, rfl, H⟩ := H
  obtain ⟨F4, H⟩ := H
  show cd_W X m_Desk_serial kc ks 5 [some (.ref 64), some (.int p1), none] [va_rf o3] h2 Q
  refine cd_astore_n (i := 2) d_Desk_serial_5 rfl (by decide) (cd_isr_rf _) ?_
  show cd_W X m_Desk_serial kc ks 6 [some (.ref 64), some (.int p1), some (va_rf o3)] [] h2 Q
  refine cd_aload_n (i := 2) (v := va_rf o3) d_Desk_serial_6 rfl rfl (cd_isr_rf _) ?_
  refine cd_ifnonnull (r := o3) (tgt := 14) d_Desk_serial_7 (by decide) (fun b6 t5 => ?_) (fun t5 => ?_)
  · replace H := H.2 b6 t5
    rw [cd_rfs t5]
    refine cd_aload_n (i := 2) (v := .ref b6) d_Desk_serial_14 rfl rfl (cd_isr_ref _) ?_
    obtain ⟨c7, H⟩ := H
    refine cd_get (v := .int (cd_i h2 b6 3)) d_Desk_serial_15 fl_Desk_207 c7 rfl ?_
    exact cd_iret d_Desk_serial_18 rfl rfl H
  · replace H := H.1 t5
    rw [cd_rfn t5]
    refine cd_iconst (v := (-1)) d_Desk_serial_10 (by decide) ?_
    refine cd_goto (tgt := 18) d_Desk_serial_11 (by decide) ?_
    exact cd_iret d_Desk_serial_18 rfl rfl H

abbrev m_Desk_octet : cd_M := (⟨"CertificateDesk", "octet", "(II)I"⟩, prog_1_method_18_code, 4, some .int, 12, 260)
theorem d_Desk_octet_0 : decode prog_1_method_18_code 0 = .ok (.aload_n 0, 1) := by decide +kernel
theorem d_Desk_octet_1 : decode prog_1_method_18_code 1 = .ok (.iload_n 1, 1) := by decide +kernel
theorem d_Desk_octet_2 : decode prog_1_method_18_code 2 = .ok (.invokevirtual 210, 3) := by decide +kernel
theorem ca_Desk_octet_210 {X : cd_E} : cd_CV X m_Desk_octet m_Desk_certificateAt 210 1 0 := ⟨⟨by decide, kw_4_148, kw_1_1, ⟨by decide, by decide, by decide +kernel⟩, by decide, by decide⟩, ⟨_, rfl, rfl⟩, kw_4_147, kp_34, (Or.inl kw_4_145)⟩
theorem d_Desk_octet_5 : decode prog_1_method_18_code 5 = .ok (.astore_n 3, 1) := by decide +kernel
theorem d_Desk_octet_6 : decode prog_1_method_18_code 6 = .ok (.aload_n 3, 1) := by decide +kernel
theorem d_Desk_octet_7 : decode prog_1_method_18_code 7 = .ok (.ifnonnull 5, 3) := by decide +kernel
theorem d_Desk_octet_12 : decode prog_1_method_18_code 12 = .ok (.iload_n 2, 1) := by decide +kernel
theorem d_Desk_octet_13 : decode prog_1_method_18_code 13 = .ok (.iconst (-1), 1) := by decide +kernel
theorem d_Desk_octet_14 : decode prog_1_method_18_code 14 = .ok (.if_icmp .ne 13, 3) := by decide +kernel
theorem d_Desk_octet_27 : decode prog_1_method_18_code 27 = .ok (.aload_n 3, 1) := by decide +kernel
theorem d_Desk_octet_28 : decode prog_1_method_18_code 28 = .ok (.getfield 214, 3) := by decide +kernel
theorem kw_4_126 : (Jvm.Cond.fieldLink "CertificateDesk" (214 : Nat) "CertificateDesk$Certificate" "octets" "LCertificateDesk$Octets;") ∈ cd_tbl := tb_4 (List.mem_of_getElem? (i := 126) (by decide +kernel)) (by decide)
theorem fl_Desk_214 {X : cd_E} : cd_FL X "CertificateDesk" 214 3 2 (.object "CertificateDesk$Octets") := cd_FL.of rfl rfl (by decide) kw_4_126 (Or.inl rfl)
theorem d_Desk_octet_31 : decode prog_1_method_18_code 31 = .ok (.iload_n 2, 1) := by decide +kernel
theorem d_Desk_octet_32 : decode prog_1_method_18_code 32 = .ok (.invokevirtual 224, 3) := by decide +kernel
theorem kw_5_4 : (Jvm.Cond.methodLink "CertificateDesk" (224 : Nat) ({ cls := "CertificateDesk$Octets", name := "at", desc := "(I)I" } : Jvm.MethodName)) ∈ cd_tbl := tb_5 (List.mem_of_getElem? (i := 4) (by decide +kernel)) (by decide)
theorem ca_Desk_octet_224 {X : cd_E} : cd_CV X m_Desk_octet m_Oct_at 224 1 7 := ⟨⟨by decide, kw_4_111, kw_1_28, ⟨by decide, by decide, by decide +kernel⟩, by decide, by decide⟩, ⟨_, rfl, rfl⟩, kw_4_109, kw_4_110, (Or.inl kw_5_4)⟩
theorem d_Desk_octet_35 : decode prog_1_method_18_code 35 = .ok (.ireturn, 1) := by decide +kernel
theorem d_Desk_octet_17 : decode prog_1_method_18_code 17 = .ok (.aload_n 3, 1) := by decide +kernel
theorem d_Desk_octet_18 : decode prog_1_method_18_code 18 = .ok (.getfield 214, 3) := by decide +kernel
theorem d_Desk_octet_21 : decode prog_1_method_18_code 21 = .ok (.getfield 220, 3) := by decide +kernel
theorem kw_4_72 : (Jvm.Cond.fieldLink "CertificateDesk" (220 : Nat) "CertificateDesk$Octets" "size" "I") ∈ cd_tbl := tb_4 (List.mem_of_getElem? (i := 72) (by decide +kernel)) (by decide)
theorem fl_Desk_220 {X : cd_E} : cd_FL X "CertificateDesk" 220 7 1 .int := cd_FL.of rfl rfl (by decide) kw_4_72 (Or.inl rfl)
theorem d_Desk_octet_24 : decode prog_1_method_18_code 24 = .ok (.goto 11, 3) := by decide +kernel
theorem d_Desk_octet_10 : decode prog_1_method_18_code 10 = .ok (.iconst (-1), 1) := by decide +kernel
theorem d_Desk_octet_11 : decode prog_1_method_18_code 11 = .ok (.ireturn, 1) := by decide +kernel
theorem g_Desk_octet {X : cd_E} {kc ks : Nat} {h : cd_H} {Q : Option Value → cd_H → Prop} {p1 : Int32} {p2 : Int32} (F : cc_ok h) (H : cd_W X m_Desk_certificateAt 0 0 0 [some (.ref 64), some (.int p1)] [] h (fun r1 h2 => ∃ o3 : Option Nat, r1 = some (va_rf o3) ∧ ((cc_ok h2) ∧ ((((o3 = none) → (Q (some (.int (-1))) h2)) ∧ (∀ b6 : Nat, o3 = some b6 → ((((¬ p2 = (-1)) → ((cd_k h2 b6 = some (.inl 3)) ∧ ((∃ b9 : Nat, (cd_r h2 b6 2) = some b9 ∧ ((cd_k h2 b9 = some (.inl 7)) ∧ (cd_W X m_Oct_at 0 0 0 [some (.ref b9), some (.int p2)] [] h2 (fun r12 h13 => ∃ x14 : Int32, r12 = some (.int x14) ∧ ((cc_ok h13) ∧ (Q (some (.int x14)) h13))))))))) ∧ ((p2 = (-1)) → ((cd_k h2 b6 = some (.inl 3)) ∧ ((∃ b17 : Nat, (cd_r h2 b6 2) = some b17 ∧ ((cd_k h2 b17 = some (.inl 7)) ∧ (Q (some (.int (cd_i h2 b17 1))) h2)))))))))))))) : cd_W X m_Desk_octet kc ks 0 [some (.ref 64), some (.int p1), some (.int p2), none] [] h Q := by
  refine cd_aload_n (i := 0) (v := .ref 64) d_Desk_octet_0 rfl rfl (cd_isr_ref _) ?_
  refine cd_iload_n (i := 1) d_Desk_octet_1 rfl rfl ?_
  refine cd_callV (kc := kc) (ks := ks) (kc' := 0) (ks' := 0) (As := [.int p1]) (S := []) d_Desk_octet_2 ca_Desk_octet_210 (cc_k64 F) rfl (Nat.le_of_ble_eq_true rfl) (Nat.le_of_ble_eq_true rfl) ?_
  refine cd_W.mono (fun r1 h2 H => ?_) H
  obtain ⟨o3, rfl, H⟩ := H
  obtain ⟨F4, H⟩ := H
  show cd_W X m_Desk_octet kc ks 5 [some (.ref 64), some (.int p1), some (.int p2), none] [va_rf o3] h2 Q
  refine cd_astore_n (i := 3) d_Desk_octet_5 rfl (by decide) (cd_isr_rf _) ?_
  show cd_W X m_Desk_octet kc ks 6 [some (.ref 64), some (.int p1), some (.int p2), some (va_rf o3)] [] h2 Q
  refine cd_aload_n (i := 3) (v := va_rf o3) d_Desk_octet_6 rfl rfl (cd_isr_rf _) ?_
  refine cd_ifnonnull (r := o3) (tgt := 12) d_Desk_octet_7 (by decide) (fun b6 t5 => ?_) (fun t5 => ?_)
  · replace H := H.2 b6 t5
    rw [cd_rfs t5]
    refine cd_iload_n (i := 2) d_Desk_octet_12 rfl rfl ?_
    refine cd_iconst (v := (-1)) d_Desk_octet_13 (by decide) ?_
    refine cd_icmp_ne (tgt := 27) d_Desk_octet_14 (by decide) (fun t7 => ?_) (fun t7 => ?_)
    · replace H := H.1 t7
      refine cd_aload_n (i := 3) (v := .ref b6) d_Desk_octet_27 rfl rfl (cd_isr_ref _) ?_
      obtain ⟨c8, H⟩ := H
      refine cd_get (v := va_rf (cd_r h2 b6 2)) d_Desk_octet_28 fl_Desk_214 c8 rfl ?_
      refine cd_iload_n (i := 2) d_Desk_octet_31 rfl rfl ?_
      obtain ⟨b9, e10, H⟩ := H
      rw [cd_rfs e10]
      obtain ⟨c11, H⟩ := H
      refine cd_callV (kc := kc) (ks := ks) (kc' := 0) (ks' := 0) (As := [.int p2]) (S := []) d_Desk_octet_32 ca_Desk_octet_224 c11 rfl (Nat.le_of_ble_eq_true rfl) (Nat.le_of_ble_eq_true rfl) ?_
      refine cd_W.mono (fun r12 h13 H => ?_) H
      obtain ⟨x14, rfl, H⟩ := H
      obtain ⟨F15, H⟩ := H
      show cd_W X m_Desk_octet kc ks 35 [some (.ref 64), some (.int p1), some (.int p2), some (.ref b6)] [.int x14] h13 Q
      exact cd_iret d_Desk_octet_35 rfl rfl H
    · replace H := H.2 t7
      refine cd_aload_n (i := 3) (v := .ref b6) d_Desk_octet_17 rfl rfl (cd_isr_ref _) ?_
      obtain ⟨c16, H⟩ := H
      refine cd_get (v := va_rf (cd_r h2 b6 2)) d_Desk_octet_18 fl_Desk_214 c16 rfl ?_
      obtain ⟨b17, e18, H⟩ := H
      rw [cd_rfs e18]
      obtain ⟨c19, H⟩ := H
      refine cd_get (v := .int (cd_i h2 b17 1)) d_Desk_octet_21 fl_Desk_220 c19 rfl ?_
      refine cd_goto (tgt := 35) d_Desk_octet_24 (by decide) ?_
      exact cd_iret d_Desk_octet_35 rfl rfl H
  · replace H := H.1 t5
    rw [cd_rfn t5]
    refine cd_iconst (v := (-1)) d_Desk_octet_10 (by decide) ?_
    exact cd_iret d_Desk_octet_11 rfl rfl H

abbrev m_Desk_standing : cd_M := (⟨"CertificateDesk", "standing", "(I)I"⟩, prog_1_method_19_code, 3, some .int, 12, 260)
theorem d_Desk_standing_0 : decode prog_1_method_19_code 0 = .ok (.aload_n 0, 1) := by decide +kernel
theorem d_Desk_standing_1 : decode prog_1_method_19_code 1 = .ok (.iload_n 1, 1) := by decide +kernel
theorem d_Desk_standing_2 : decode prog_1_method_19_code 2 = .ok (.invokevirtual 210, 3) := by decide +kernel
theorem ca_Desk_standing_210 {X : cd_E} : cd_CV X m_Desk_standing m_Desk_certificateAt 210 1 0 := ⟨⟨by decide, kw_4_148, kw_1_1, ⟨by decide, by decide, by decide +kernel⟩, by decide, by decide⟩, ⟨_, rfl, rfl⟩, kw_4_147, kp_34, (Or.inl kw_4_145)⟩
theorem d_Desk_standing_5 : decode prog_1_method_19_code 5 = .ok (.astore_n 2, 1) := by decide +kernel
theorem d_Desk_standing_6 : decode prog_1_method_19_code 6 = .ok (.aload_n 2, 1) := by decide +kernel
theorem d_Desk_standing_7 : decode prog_1_method_19_code 7 = .ok (.ifnonnull 5, 3) := by decide +kernel
theorem d_Desk_standing_12 : decode prog_1_method_19_code 12 = .ok (.aload_n 2, 1) := by decide +kernel
theorem d_Desk_standing_13 : decode prog_1_method_19_code 13 = .ok (.getfield 228, 3) := by decide +kernel
theorem d_Desk_standing_16 : decode prog_1_method_19_code 16 = .ok (.iconst (-1), 1) := by decide +kernel
theorem d_Desk_standing_17 : decode prog_1_method_19_code 17 = .ok (.if_icmp .eq 11, 3) := by decide +kernel
theorem d_Desk_standing_28 : decode prog_1_method_19_code 28 = .ok (.aload_n 0, 1) := by decide +kernel
theorem d_Desk_standing_29 : decode prog_1_method_19_code 29 = .ok (.getfield 84, 3) := by decide +kernel
theorem d_Desk_standing_32 : decode prog_1_method_19_code 32 = .ok (.aload_n 2, 1) := by decide +kernel
theorem d_Desk_standing_33 : decode prog_1_method_19_code 33 = .ok (.getfield 231, 3) := by decide +kernel
theorem kw_4_124 : (Jvm.Cond.fieldLink "CertificateDesk" (231 : Nat) "CertificateDesk$Certificate" "made" "I") ∈ cd_tbl := tb_4 (List.mem_of_getElem? (i := 124) (by decide +kernel)) (by decide)
theorem fl_Desk_231 {X : cd_E} : cd_FL X "CertificateDesk" 231 3 1 .int := cd_FL.of rfl rfl (by decide) kw_4_124 (Or.inl rfl)
theorem d_Desk_standing_36 : decode prog_1_method_19_code 36 = .ok (.isub, 1) := by decide +kernel
theorem d_Desk_standing_37 : decode prog_1_method_19_code 37 = .ok (.bipush 20, 2) := by decide +kernel
theorem d_Desk_standing_39 : decode prog_1_method_19_code 39 = .ok (.if_icmp .lt 7, 3) := by decide +kernel
theorem d_Desk_standing_46 : decode prog_1_method_19_code 46 = .ok (.iconst 0, 1) := by decide +kernel
theorem d_Desk_standing_47 : decode prog_1_method_19_code 47 = .ok (.ireturn, 1) := by decide +kernel
theorem d_Desk_standing_42 : decode prog_1_method_19_code 42 = .ok (.iconst 1, 1) := by decide +kernel
theorem d_Desk_standing_43 : decode prog_1_method_19_code 43 = .ok (.goto 4, 3) := by decide +kernel
theorem d_Desk_standing_20 : decode prog_1_method_19_code 20 = .ok (.bipush 100, 2) := by decide +kernel
theorem d_Desk_standing_22 : decode prog_1_method_19_code 22 = .ok (.aload_n 2, 1) := by decide +kernel
theorem d_Desk_standing_23 : decode prog_1_method_19_code 23 = .ok (.getfield 228, 3) := by decide +kernel
theorem d_Desk_standing_26 : decode prog_1_method_19_code 26 = .ok (.iadd, 1) := by decide +kernel
theorem d_Desk_standing_27 : decode prog_1_method_19_code 27 = .ok (.ireturn, 1) := by decide +kernel
theorem d_Desk_standing_10 : decode prog_1_method_19_code 10 = .ok (.iconst (-1), 1) := by decide +kernel
theorem d_Desk_standing_11 : decode prog_1_method_19_code 11 = .ok (.ireturn, 1) := by decide +kernel
theorem g_Desk_standing {X : cd_E} {kc ks : Nat} {h : cd_H} {Q : Option Value → cd_H → Prop} {p1 : Int32} (F : cc_ok h) (H : cd_W X m_Desk_certificateAt 0 0 0 [some (.ref 64), some (.int p1)] [] h (fun r1 h2 => ∃ o3 : Option Nat, r1 = some (va_rf o3) ∧ ((cc_ok h2) ∧ ((((o3 = none) → (Q (some (.int (-1))) h2)) ∧ (∀ b6 : Nat, o3 = some b6 → ((cd_k h2 b6 = some (.inl 3)) ∧ (((((cd_i h2 b6 3) = (-1)) → ((((((cd_i h2 64 12) - (cd_i h2 b6 1)) < 20) → (Q (some (.int 0)) h2)) ∧ ((¬ ((cd_i h2 64 12) - (cd_i h2 b6 1)) < 20) → (Q (some (.int 1)) h2))))) ∧ ((¬ (cd_i h2 b6 3) = (-1)) → (Q (some (.int (100 + (cd_i h2 b6 3)))) h2))))))))))) : cd_W X m_Desk_standing kc ks 0 [some (.ref 64), some (.int p1), none] [] h Q := by
  refine cd_aload_n (i := 0) (v := .ref 64) d_Desk_standing_0 rfl rfl (cd_isr_ref _) ?_
  refine cd_iload_n (i := 1) d_Desk_standing_1 rfl rfl ?_
  refine cd_callV (kc := kc) (ks := ks) (kc' := 0) (ks' := 0) (As := [.int p1]) (S := []) d_Desk_standing_2 ca_Desk_standing_210 (cc_k64 F) rfl (Nat.le_of_ble_eq_true rfl) (Nat.le_of_ble_eq_true rfl) ?_
  refine cd_W.mono (fun r1 h2 H => ?_) H
  obtain ⟨o3, rfl, H⟩ := H
  obtain ⟨F4, H⟩ := H
  show cd_W X m_Desk_standing kc ks 5 [some (.ref 64), some (.int p1), none] [va_rf o3] h2 Q
  refine cd_astore_n (i := 2) d_Desk_standing_5 rfl (by decide) (cd_isr_rf _) ?_
  show cd_W X m_Desk_standing kc ks 6 [some (.ref 64), some (.int p1), some (va_rf o3)] [] h2 Q
  refine cd_aload_n (i := 2) (v := va_rf o3) d_Desk_standing_6 rfl rfl (cd_isr_rf _) ?_
  refine cd_ifnonnull (r := o3) (tgt := 12) d_Desk_standing_7 (by decide) (fun b6 t5 => ?_) (fun t5 => ?_)
  · replace H := H.2 b6 t5
    rw [cd_rfs t5]
    refine cd_aload_n (i := 2) (v := .ref b6) d_Desk_standing_12 rfl rfl (cd_isr_ref _) ?_
    obtain ⟨c7, H⟩ := H
    refine cd_get (v := .int (cd_i h2 b6 3)) d_Desk_standing_13 fl_Desk_228 c7 rfl ?_
    refine cd_iconst (v := (-1)) d_Desk_standing_16 (by decide) ?_
    refine cd_icmp_eq (tgt := 28) d_Desk_standing_17 (by decide) (fun t8 => ?_) (fun t8 => ?_)
    · replace H := H.1 t8
      refine cd_aload_n (i := 0) (v := .ref 64) d_Desk_standing_28 rfl rfl (cd_isr_ref _) ?_
      refine cd_get (v := .int (cd_i h2 64 12)) d_Desk_standing_29 fl_Desk_84 (cc_k64 F4) rfl ?_
      refine cd_aload_n (i := 2) (v := .ref b6) d_Desk_standing_32 rfl rfl (cd_isr_ref _) ?_
      refine cd_get (v := .int (cd_i h2 b6 1)) d_Desk_standing_33 fl_Desk_231 c7 rfl ?_
      refine cd_isub d_Desk_standing_36 ?_
      refine cd_bipush (v := 20) d_Desk_standing_37 (by decide) ?_
      refine cd_icmp_lt (tgt := 46) d_Desk_standing_39 (by decide) (fun t9 => ?_) (fun t9 => ?_)
      · replace H := H.1 t9
        refine cd_iconst (v := 0) d_Desk_standing_46 (by decide) ?_
        exact cd_iret d_Desk_standing_47 rfl rfl H
      · replace H := H.2 t9
        refine cd_iconst (v := 1) d_Desk_standing_42 (by decide) ?_
        refine cd_goto (tgt := 47) d_Desk_standing_43 (by decide) ?_
        exact cd_iret d_Desk_standing_47 rfl rfl H
    · replace H := H.2 t8
      refine cd_bipush (v := 100) d_Desk_standing_20 (by decide) ?_
      refine cd_aload_n (i := 2) (v := .ref b6) d_Desk_standing_22 rfl rfl (cd_isr_ref _) ?_
      refine cd_get (v := .int (cd_i h2 b6 3)) d_Desk_standing_23 fl_Desk_228 c7 rfl ?_
      refine cd_iadd d_Desk_standing_26 ?_
      exact cd_iret d_Desk_standing_27 rfl rfl H
  · replace H := H.1 t5
    rw [cd_rfn t5]
    refine cd_iconst (v := (-1)) d_Desk_standing_10 (by decide) ?_
    exact cd_iret d_Desk_standing_11 rfl rfl H

abbrev m_Desk_listing : cd_M := (⟨"CertificateDesk", "listing", "()I"⟩, prog_1_method_20_code, 4, some .int, 11, 239)
theorem d_Desk_listing_0 : decode prog_1_method_20_code 0 = .ok (.bipush 7, 2) := by decide +kernel
theorem d_Desk_listing_2 : decode prog_1_method_20_code 2 = .ok (.istore_n 1, 1) := by decide +kernel
theorem d_Desk_listing_3 : decode prog_1_method_20_code 3 = .ok (.iconst 0, 1) := by decide +kernel
theorem d_Desk_listing_4 : decode prog_1_method_20_code 4 = .ok (.istore_n 2, 1) := by decide +kernel
theorem g_Desk_listing {X : cd_E} {kc ks : Nat} {h : cd_H} {Q : Option Value → cd_H → Prop}  (F : cc_ok h) (H : cd_W X m_Desk_listing kc ks 5 [some (.ref 64), some (.int 7), some (.int 0), none] [] h Q) : cd_W X m_Desk_listing kc ks 0 [some (.ref 64), none, none, none] [] h Q := by
  refine cd_bipush (v := 7) d_Desk_listing_0 (by decide) ?_
  refine cd_istore_n (i := 1) d_Desk_listing_2 rfl (by decide) ?_
  show cd_W X m_Desk_listing kc ks 3 [some (.ref 64), some (.int 7), none, none] [] h Q
  refine cd_iconst (v := 0) d_Desk_listing_3 (by decide) ?_
  refine cd_istore_n (i := 2) d_Desk_listing_4 rfl (by decide) ?_
  show cd_W X m_Desk_listing kc ks 5 [some (.ref 64), some (.int 7), some (.int 0), none] [] h Q
  exact H

theorem d_Desk_listing_5 : decode prog_1_method_20_code 5 = .ok (.iload_n 2, 1) := by decide +kernel
theorem d_Desk_listing_6 : decode prog_1_method_20_code 6 = .ok (.aload_n 0, 1) := by decide +kernel
theorem d_Desk_listing_7 : decode prog_1_method_20_code 7 = .ok (.getfield 81, 3) := by decide +kernel
theorem d_Desk_listing_10 : decode prog_1_method_20_code 10 = .ok (.invokevirtual 135, 3) := by decide +kernel
theorem ca_Desk_listing_135 {X : cd_E} : cd_CV X m_Desk_listing m_AL_size 135 0 12 := ⟨⟨by decide, kw_2_11, kw_1_9, ⟨by decide, by decide, by decide +kernel⟩, by decide, by decide⟩, ⟨_, rfl, rfl⟩, kw_2_9, kw_2_10, (Or.inl kw_2_8)⟩
theorem d_Desk_listing_13 : decode prog_1_method_20_code 13 = .ok (.if_icmp .ge 42, 3) := by decide +kernel
theorem d_Desk_listing_55 : decode prog_1_method_20_code 55 = .ok (.aload_n 0, 1) := by decide +kernel
theorem d_Desk_listing_56 : decode prog_1_method_20_code 56 = .ok (.getfield 30, 3) := by decide +kernel
theorem d_Desk_listing_59 : decode prog_1_method_20_code 59 = .ok (.iload_n 1, 1) := by decide +kernel
theorem d_Desk_listing_60 : decode prog_1_method_20_code 60 = .ok (.invokevirtual 240, 3) := by decide +kernel
theorem ca_Desk_listing_240 {X : cd_E} : cd_CV X m_Desk_listing m_Key_sign 240 1 4 := ⟨⟨by decide, kw_1_235, kw_1_2, ⟨by decide, by decide, by decide +kernel⟩, by decide, by decide⟩, ⟨_, rfl, rfl⟩, kw_1_233, kw_1_234, (Or.inl kw_1_232)⟩
theorem d_Desk_listing_63 : decode prog_1_method_20_code 63 = .ok (.ireturn, 1) := by decide +kernel
theorem d_Desk_listing_16 : decode prog_1_method_20_code 16 = .ok (.aload_n 0, 1) := by decide +kernel
theorem d_Desk_listing_17 : decode prog_1_method_20_code 17 = .ok (.getfield 81, 3) := by decide +kernel
theorem d_Desk_listing_20 : decode prog_1_method_20_code 20 = .ok (.iload_n 2, 1) := by decide +kernel
theorem d_Desk_listing_21 : decode prog_1_method_20_code 21 = .ok (.invokevirtual 138, 3) := by decide +kernel
theorem ca_Desk_listing_138 {X : cd_E} : cd_CV X m_Desk_listing m_AL_get 138 1 12 := ⟨⟨by decide, kw_2_15, kw_1_9, ⟨by decide, by decide, by decide +kernel⟩, by decide, by decide⟩, ⟨_, rfl, rfl⟩, kw_2_13, kw_2_14, (Or.inl kw_2_12)⟩
theorem d_Desk_listing_24 : decode prog_1_method_20_code 24 = .ok (.checkcast 215, 3) := by decide +kernel
theorem d_Desk_listing_27 : decode prog_1_method_20_code 27 = .ok (.astore_n 3, 1) := by decide +kernel
theorem d_Desk_listing_28 : decode prog_1_method_20_code 28 = .ok (.aload_n 3, 1) := by decide +kernel
theorem d_Desk_listing_29 : decode prog_1_method_20_code 29 = .ok (.getfield 228, 3) := by decide +kernel
theorem d_Desk_listing_32 : decode prog_1_method_20_code 32 = .ok (.iconst (-1), 1) := by decide +kernel
theorem d_Desk_listing_33 : decode prog_1_method_20_code 33 = .ok (.if_icmp .eq 16, 3) := by decide +kernel
theorem d_Desk_listing_49 : decode prog_1_method_20_code 49 = .ok (.iinc 2 1, 3) := by decide +kernel
theorem d_Desk_listing_52 : decode prog_1_method_20_code 52 = .ok (.goto (-47), 3) := by decide +kernel
theorem d_Desk_listing_36 : decode prog_1_method_20_code 36 = .ok (.iload_n 1, 1) := by decide +kernel
theorem d_Desk_listing_37 : decode prog_1_method_20_code 37 = .ok (.iload_n 2, 1) := by decide +kernel
theorem d_Desk_listing_38 : decode prog_1_method_20_code 38 = .ok (.invokestatic 236, 3) := by decide +kernel
theorem ca_Desk_listing_236 {X : cd_E} : cd_CS X m_Desk_listing m_Dig_with 236 2 := ⟨⟨by decide, kw_1_223, kw_1_11, ⟨by decide, by decide, by decide +kernel⟩, by decide, by decide⟩, kw_1_222, (Or.inl kw_1_226)⟩
theorem d_Desk_listing_41 : decode prog_1_method_20_code 41 = .ok (.aload_n 3, 1) := by decide +kernel
theorem d_Desk_listing_42 : decode prog_1_method_20_code 42 = .ok (.getfield 228, 3) := by decide +kernel
theorem d_Desk_listing_45 : decode prog_1_method_20_code 45 = .ok (.invokestatic 236, 3) := by decide +kernel
theorem d_Desk_listing_48 : decode prog_1_method_20_code 48 = .ok (.istore_n 1, 1) := by decide +kernel
theorem g_Desk_listing_5 {X : cd_E} {kc ks : Nat} {h : cd_H} {Q : Option Value → cd_H → Prop} {v1 : Int32} {v2 : Int32} (F : cc_ok h) (H : cd_W X m_AL_size 0 0 0 [some (.ref 81)] [] h (fun r1 h2 => ∃ x3 : Int32, r1 = some (.int x3) ∧ ((cc_ok h2) ∧ ((((x3 ≤ v2) → (cd_W X m_Key_sign 0 0 0 [some (.ref 70), some (.int v1)] [] h2 (fun r6 h7 => ∃ x8 : Int32, r6 = some (.int x8) ∧ ((cc_ok h7) ∧ (Q (some (.int x8)) h7))))) ∧ ((¬ x3 ≤ v2) → (cd_W X m_AL_get 0 0 0 [some (.ref 81), some (.int v2)] [] h2 (fun r10 h11 => ∃ o12 : Option Nat, r10 = some (va_rf o12) ∧ ((cc_ok h11) ∧ ((∃ b14 : Nat, o12 = some b14 ∧ ((cd_k h11 b14 = some (.inl 3)) ∧ (((((cd_i h11 b14 3) = (-1)) → (cd_W X m_Desk_listing kc ks 5 [some (.ref 64), some (.int v1), some (.int (v2 + 1)), none] [] h11 Q)) ∧ ((¬ (cd_i h11 b14 3) = (-1)) → (cd_W X m_Dig_with 0 0 0 [some (.int v1), some (.int v2)] [] h11 (fun r18 h19 => ∃ x20 : Int32, r18 = some (.int x20) ∧ ((cc_ok h19) ∧ ((cd_k h19 b14 = some (.inl 3)) ∧ (cd_W X m_Dig_with 0 0 0 [some (.int x20), some (.int (cd_i h19 b14 3))] [] h19 (fun r23 h24 => ∃ x25 : Int32, r23 = some (.int x25) ∧ ((cc_ok h24) ∧ (cd_W X m_Desk_listing kc ks 5 [some (.ref 64), some (.int x25), some (.int (v2 + 1)), none] [] h24 Q))))))))))))))))))))))) : cd_W X m_Desk_listing kc ks 5 [some (.ref 64), some (.int v1), some (.int v2), none] [] h Q := by
  refine cd_iload_n (i := 2) d_Desk_listing_5 rfl rfl ?_
  refine cd_aload_n (i := 0) (v := .ref 64) d_Desk_listing_6 rfl rfl (cd_isr_ref _) ?_
  refine cd_get (v := .ref 81) d_Desk_listing_7 fl_Desk_81 (cc_k64 F) (congrArg va_rf (cc_r64_11 F)) ?_
  refine cd_callV (kc := kc) (ks := ks) (kc' := 0) (ks' := 0) (As := []) (S := [.int v2]) d_Desk_listing_10 ca_Desk_listing_135 (cc_k81 F) rfl (Nat.le_of_ble_eq_true rfl) (Nat.le_of_ble_eq_true rfl) ?_
  refine cd_W.mono (fun r1 h2 H => ?_) H
  obtain ⟨x3, rfl, H⟩ := H
  obtain ⟨F4, H⟩ := H
  show cd_W X m_Desk_listing kc ks 13 [some (.ref 64), some (.int v1), some (.int v2), none] [.int x3, .int v2] h2 Q
  refine cd_icmp_ge (tgt := 55) d_Desk_listing_13 (by decide) (fun t5 => ?_) (fun t5 => ?_)
  · replace H := H.1 t5
    refine cd_aload_n (i := 0) (v := .ref 64) d_Desk_listing_55 rfl rfl (cd_isr_ref _) ?_
    refine cd_get (v := .ref 70) d_Desk_listing_56 fl_Desk_30 (cc_k64 F4) (congrArg va_rf (cc_r64_2 F4)) ?_
    refine cd_iload_n (i := 1) d_Desk_listing_59 rfl rfl ?_
    refine cd_callV (kc := kc) (ks := ks) (kc' := 0) (ks' := 0) (As := [.int v1]) (S := []) d_Desk_listing_60 ca_Desk_listing_240 (cc_k70 F4) rfl (Nat.le_of_ble_eq_true rfl) (Nat.le_of_ble_eq_true rfl) ?_
    refine cd_W.mono (fun r6 h7 H => ?_) H
    obtain ⟨x8, rfl, H⟩ := H
    obtain ⟨F9, H⟩ := H
    show cd_W X m_Desk_listing kc ks 63 [some (.ref 64), some (.int v1), some (.int v2), none] [.int x8] h7 Q
    exact cd_iret d_Desk_listing_63 rfl rfl H
  · replace H := H.2 t5
    refine cd_aload_n (i := 0) (v := .ref 64) d_Desk_listing_16 rfl rfl (cd_isr_ref _) ?_
    refine cd_get (v := .ref 81) d_Desk_listing_17 fl_Desk_81 (cc_k64 F4) (congrArg va_rf (cc_r64_11 F4)) ?_
    refine cd_iload_n (i := 2) d_Desk_listing_20 rfl rfl ?_
    refine cd_callV (kc := kc) (ks := ks) (kc' := 0) (ks' := 0) (As := [.int v2]) (S := []) d_Desk_listing_21 ca_Desk_listing_138 (cc_k81 F4) rfl (Nat.le_of_ble_eq_true rfl) (Nat.le_of_ble_eq_true rfl) ?_
    refine cd_W.mono (fun r10 h11 H => ?_) H
    obtain ⟨o12, rfl, H⟩ := H
    obtain ⟨F13, H⟩ := H
    show cd_W X m_Desk_listing kc ks 24 [some (.ref 64), some (.int v1), some (.int v2), none] [va_rf o12] h11 Q
    obtain ⟨b14, e15, H⟩ := H
    rw [cd_rfs e15]
    obtain ⟨c16, H⟩ := H
    refine cd_cast d_Desk_listing_24 rfl ⟨kw_4_58, kw_4_59⟩ c16 ?_
    refine cd_astore_n (i := 3) d_Desk_listing_27 rfl (by decide) (cd_isr_ref _) ?_
    show cd_W X m_Desk_listing kc ks 28 [some (.ref 64), some (.int v1), some (.int v2), some (.ref b14)] [] h11 Q
    refine cd_aload_n (i := 3) (v := .ref b14) d_Desk_listing_28 rfl rfl (cd_isr_ref _) ?_
    refine cd_get (v := .int (cd_i h11 b14 3)) d_Desk_listing_29 fl_Desk_228 c16 rfl ?_
    refine cd_iconst (v := (-1)) d_Desk_listing_32 (by decide) ?_
    refine cd_icmp_eq (tgt := 49) d_Desk_listing_33 (by decide) (fun t17 => ?_) (fun t17 => ?_)
    · replace H := H.1 t17
      refine cd_iinc (i := 2) (v := (v2 + 1)) d_Desk_listing_49 rfl (cd_inc1 _) (by decide) ?_
      show cd_W X m_Desk_listing kc ks 52 [some (.ref 64), some (.int v1), some (.int (v2 + 1)), some (.ref b14)] [] h11 Q
      refine cd_goto (tgt := 5) d_Desk_listing_52 (by decide) ?_
      refine cd_W.drop (i := 3) ?_
      exact H
    · replace H := H.2 t17
      refine cd_iload_n (i := 1) d_Desk_listing_36 rfl rfl ?_
      refine cd_iload_n (i := 2) d_Desk_listing_37 rfl rfl ?_
      refine cd_callS (kc := kc) (ks := ks) (kc' := 0) (ks' := 0) (As := [.int v1, .int v2]) (S := []) d_Desk_listing_38 ca_Desk_listing_236 rfl (Nat.le_of_ble_eq_true rfl) (Nat.le_of_ble_eq_true rfl) ?_
      refine cd_W.mono (fun r18 h19 H => ?_) H
      obtain ⟨x20, rfl, H⟩ := H
      obtain ⟨F21, H⟩ := H
      show cd_W X m_Desk_listing kc ks 41 [some (.ref 64), some (.int v1), some (.int v2), some (.ref b14)] [.int x20] h19 Q
      refine cd_aload_n (i := 3) (v := .ref b14) d_Desk_listing_41 rfl rfl (cd_isr_ref _) ?_
      obtain ⟨c22, H⟩ := H
      refine cd_get (v := .int (cd_i h19 b14 3)) d_Desk_listing_42 fl_Desk_228 c22 rfl ?_
      refine cd_callS (kc := kc) (ks := ks) (kc' := 0) (ks' := 0) (As := [.int x20, .int (cd_i h19 b14 3)]) (S := []) d_Desk_listing_45 ca_Desk_listing_236 rfl (Nat.le_of_ble_eq_true rfl) (Nat.le_of_ble_eq_true rfl) ?_
      refine cd_W.mono (fun r23 h24 H => ?_) H
      obtain ⟨x25, rfl, H⟩ := H
      obtain ⟨F26, H⟩ := H
      show cd_W X m_Desk_listing kc ks 48 [some (.ref 64), some (.int v1), some (.int v2), some (.ref b14)] [.int x25] h24 Q
      refine cd_istore_n (i := 1) d_Desk_listing_48 rfl (by decide) ?_
      show cd_W X m_Desk_listing kc ks 49 [some (.ref 64), some (.int x25), some (.int v2), some (.ref b14)] [] h24 Q
      refine cd_iinc (i := 2) (v := (v2 + 1)) d_Desk_listing_49 rfl (cd_inc1 _) (by decide) ?_
      show cd_W X m_Desk_listing kc ks 52 [some (.ref 64), some (.int x25), some (.int (v2 + 1)), some (.ref b14)] [] h24 Q
      refine cd_goto (tgt := 5) d_Desk_listing_52 (by decide) ?_
      refine cd_W.drop (i := 3) ?_
      exact H

