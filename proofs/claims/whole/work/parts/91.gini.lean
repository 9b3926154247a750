abbrev m_Desk_init : cd_M := (⟨"CertificateDesk", "<init>", "(I)V"⟩, prog_1_method_1_code, 2, none, 4, 80)
theorem d_Desk_init_0 : decode prog_1_method_1_code 0 = .ok (.aload_n 0, 1) := by decide +kernel
theorem d_Desk_init_1 : decode prog_1_method_1_code 1 = .ok (.invokespecial 1, 3) := by decide +kernel
theorem kw_1_34 : (Jvm.Cond.methodLink "CertificateDesk" (1 : Nat) ({ cls := "java/lang/Object", name := "<init>", desc := "()V" } : Jvm.MethodName)) ∈ cd_tbl := tb_1 (List.mem_of_getElem? (i := 34) (by decide +kernel)) (by decide)
theorem d_Desk_init_4 : decode prog_1_method_1_code 4 = .ok (.aload_n 0, 1) := by decide +kernel
theorem d_Desk_init_5 : decode prog_1_method_1_code 5 = .ok (.iconst 2, 1) := by decide +kernel
theorem d_Desk_init_6 : decode prog_1_method_1_code 6 = .ok (.iload_n 1, 1) := by decide +kernel
theorem d_Desk_init_7 : decode prog_1_method_1_code 7 = .ok (.bipush 7, 2) := by decide +kernel
theorem d_Desk_init_9 : decode prog_1_method_1_code 9 = .ok (.iand, 1) := by decide +kernel
theorem d_Desk_init_10 : decode prog_1_method_1_code 10 = .ok (.iadd, 1) := by decide +kernel
theorem d_Desk_init_11 : decode prog_1_method_1_code 11 = .ok (.putfield 7, 3) := by decide +kernel
theorem fp_Desk_init_7 {X : cd_E} : cd_FP X m_Desk_init 7 0 0 .int := cd_FP.of cl_0 rfl rfl (by decide) kw_1_142 (Or.inl rfl) (Or.inr ⟨rfl, rfl, rfl⟩)
theorem g_Desk_init {X : cd_E} {kc ks : Nat} {h : cd_H} {Q : Option Value → cd_H → Prop} {v1 : Int32} (H : (cd_k h 64 = some (.inl 0)) ∧ (cd_W X m_Desk_init kc ks 14 [some (.ref 64), some (.int v1)] [] (cd_si h 64 0 (2 + (v1 &&& 7))) Q)) : cd_W X m_Desk_init kc ks 0 [some (.ref 64), some (.int v1)] [] h Q := by
  refine cd_aload_n (i := 0) (v := .ref 64) d_Desk_init_0 rfl rfl (cd_isr_ref _) ?_
  refine cd_objInit d_Desk_init_1 kw_1_34 kw_1_35 kw_1_36 (by decide) (by decide) (Nat.le_of_ble_eq_true rfl) ?_
  refine cd_aload_n (i := 0) (v := .ref 64) d_Desk_init_4 rfl rfl (cd_isr_ref _) ?_
  refine cd_iconst (v := 2) d_Desk_init_5 (by decide) ?_
  refine cd_iload_n (i := 1) d_Desk_init_6 rfl rfl ?_
  refine cd_bipush (v := 7) d_Desk_init_7 (by decide) ?_
  show cd_W X m_Desk_init kc ks 9 [some (.ref 64), some (.int v1)] [.int 7, .int v1, .int 2, .ref 64] h Q
  refine cd_iand d_Desk_init_9 ?_
  refine cd_iadd d_Desk_init_10 ?_
  obtain ⟨c1, H⟩ := H
  refine cd_putI d_Desk_init_11 fp_Desk_init_7 (fun _ _ _ => rfl) c1 (by decide) rfl rfl ?_
  exact H

theorem d_Desk_init_14 : decode prog_1_method_1_code 14 = .ok (.aload_n 0, 1) := by decide +kernel
theorem d_Desk_init_15 : decode prog_1_method_1_code 15 = .ok (.iconst 4, 1) := by decide +kernel
theorem d_Desk_init_16 : decode prog_1_method_1_code 16 = .ok (.anewarray 13, 3) := by decide +kernel
theorem kw_1_37 : (Jvm.Cond.classLink "CertificateDesk" (13 : Nat) "CertificateDesk$Key") ∈ cd_tbl := tb_1 (List.mem_of_getElem? (i := 37) (by decide +kernel)) (by decide)
theorem d_Desk_init_19 : decode prog_1_method_1_code 19 = .ok (.putfield 15, 3) := by decide +kernel
theorem fp_Desk_init_15 {X : cd_E} : cd_FP X m_Desk_init 15 0 1 (.array (.object "CertificateDesk$Key")) := cd_FP.of cl_0 rfl rfl (by decide) kw_1_143 (Or.inl rfl) (Or.inr ⟨rfl, rfl, rfl⟩)
theorem g_Desk_init_14 {X : cd_E} {kc ks : Nat} {h : cd_H} {Q : Option Value → cd_H → Prop} {v1 : Int32} (H : (cd_k (cd_new h (.inr (4, 4))) 64 = some (.inl 0)) ∧ (cd_W X m_Desk_init kc ks 22 [some (.ref 64), some (.int v1)] [] (cd_sr (cd_new h (.inr (4, 4))) 64 1 (some (cd_n h))) Q)) : cd_W X m_Desk_init (kc + 1) (ks + 4) 14 [some (.ref 64), some (.int v1)] [] h Q := by
  refine cd_aload_n (i := 0) (v := .ref 64) d_Desk_init_14 rfl rfl (cd_isr_ref _) ?_
  refine cd_iconst (v := 4) d_Desk_init_15 (by decide) ?_
  refine cd_anew (z := 4) (N := 4) (kc := (kc + 0)) (ks := (ks + 0)) d_Desk_init_16 rfl kw_1_37 (List.mem_of_getElem? (i := 0) rfl) (by decide) (by decide) (by decide) ?_
  show cd_W X m_Desk_init (kc + 0) (ks + 0) 19 [some (.ref 64), some (.int v1)] [.ref (cd_n h), .ref 64] (cd_new h (.inr (4, 4))) Q
  obtain ⟨c1, H⟩ := H
  refine cd_putR (o := (some (cd_n h))) d_Desk_init_19 fp_Desk_init_15 (Or.inr ⟨_, rfl⟩) c1 (by decide) ?_
  refine cd_W.budget (kc := kc) (ks := ks) (by omega) (by omega) ?_
  exact H

theorem d_Desk_init_22 : decode prog_1_method_1_code 22 = .ok (.aload_n 0, 1) := by decide +kernel
theorem d_Desk_init_23 : decode prog_1_method_1_code 23 = .ok (.getfield 15, 3) := by decide +kernel
theorem d_Desk_init_26 : decode prog_1_method_1_code 26 = .ok (.iconst 0, 1) := by decide +kernel
theorem d_Desk_init_27 : decode prog_1_method_1_code 27 = .ok (.new 13, 3) := by decide +kernel
theorem nc_Desk_13 : cd_NC "CertificateDesk" 13 4 4 := cd_NC.of cl_4 rfl kw_1_37
theorem d_Desk_init_30 : decode prog_1_method_1_code 30 = .ok (.dup, 1) := by decide +kernel
theorem d_Desk_init_31 : decode prog_1_method_1_code 31 = .ok (.iconst 0, 1) := by decide +kernel
theorem d_Desk_init_32 : decode prog_1_method_1_code 32 = .ok (.sipush 11413, 3) := by decide +kernel
theorem d_Desk_init_35 : decode prog_1_method_1_code 35 = .ok (.iconst 3, 1) := by decide +kernel
theorem d_Desk_init_36 : decode prog_1_method_1_code 36 = .ok (.sipush 1867, 3) := by decide +kernel
theorem d_Desk_init_39 : decode prog_1_method_1_code 39 = .ok (.invokespecial 19, 3) := by decide +kernel
theorem kw_1_40 : (Jvm.Cond.methodLink "CertificateDesk" (19 : Nat) ({ cls := "CertificateDesk$Key", name := "<init>", desc := "(IIII)V" } : Jvm.MethodName)) ∈ cd_tbl := tb_1 (List.mem_of_getElem? (i := 40) (by decide +kernel)) (by decide)
theorem kw_1_42 : (Jvm.Cond.code ({ cls := "CertificateDesk$Key", name := "<init>", desc := "(IIII)V" } : Jvm.MethodName) prog_7_method_1_code (5 : Nat) (Option.none : Option Jvm.ClassFile.FieldType)) ∈ cd_tbl := tb_1 (List.mem_of_getElem? (i := 42) (by decide +kernel)) (by decide)
theorem kw_1_41 : (Jvm.Cond.instanceMethod ({ cls := "CertificateDesk$Key", name := "<init>", desc := "(IIII)V" } : Jvm.MethodName)) ∈ cd_tbl := tb_1 (List.mem_of_getElem? (i := 41) (by decide +kernel)) (by decide)
theorem ca_Desk_init_19 {X : cd_E} : cd_CI X m_Desk_init m_Key_init 19 4 := ⟨⟨by decide, kw_1_42, kw_1_2, ⟨by decide, by decide, by decide +kernel⟩, by decide, by decide⟩, rfl, rfl, kw_1_41, (Or.inl kw_1_40)⟩
theorem d_Desk_init_42 : decode prog_1_method_1_code 42 = .ok (.aastore, 1) := by decide +kernel
theorem g_Desk_init_22 {X : cd_E} {kc ks : Nat} {h : cd_H} {Q : Option Value → cd_H → Prop} {v1 : Int32} (H : (cd_k h 64 = some (.inl 0)) ∧ (cd_W X m_Key_init 0 0 0 [some (.ref (cd_n h)), some (.int 0), some (.int 11413), some (.int 3), some (.int 1867)] [] (cd_new h (.inl 4)) (fun r2 h3 => (r2 = none) ∧ ((∃ b4 : Nat, (cd_r h 64 1) = some b4 ∧ ((∃ n6 : Nat, cd_k h3 b4 = some (.inr (4, n6)) ∧ ((64 ≤ b4) ∧ ((vp_in 0 n6) ∧ ((cd_k h3 (cd_n h) = some (.inl 4)) ∧ (cd_W X m_Desk_init kc ks 43 [some (.ref 64), some (.int v1)] [] (cd_sr h3 b4 (0 : Int32).toNatClampNeg (some (cd_n h))) Q))))))))))) : cd_W X m_Desk_init (kc + 1) (ks + 4) 22 [some (.ref 64), some (.int v1)] [] h Q := by
  refine cd_aload_n (i := 0) (v := .ref 64) d_Desk_init_22 rfl rfl (cd_isr_ref _) ?_
  obtain ⟨c1, H⟩ := H
  refine cd_get (v := va_rf (cd_r h 64 1)) d_Desk_init_23 fl_Desk_15 c1 rfl ?_
  refine cd_iconst (v := 0) d_Desk_init_26 (by decide) ?_
  refine cd_newo (n := 4) (kc := (kc + 0)) (ks := (ks + 0)) d_Desk_init_27 nc_Desk_13 ?_
  show cd_W X m_Desk_init (kc + 0) (ks + 0) 30 [some (.ref 64), some (.int v1)] [.ref (cd_n h), .int 0, va_rf (cd_r h 64 1)] (cd_new h (.inl 4)) Q
  refine cd_dup d_Desk_init_30 rfl ?_
  refine cd_iconst (v := 0) d_Desk_init_31 (by decide) ?_
  refine cd_sipush (v := 11413) d_Desk_init_32 (by decide) ?_
  refine cd_iconst (v := 3) d_Desk_init_35 (by decide) ?_
  refine cd_sipush (v := 1867) d_Desk_init_36 (by decide) ?_
  refine cd_callI (kc := (kc + 0)) (ks := (ks + 0)) (kc' := 0) (ks' := 0) (As := [.int 0, .int 11413, .int 3, .int 1867]) (S := [.ref (cd_n h), .int 0, va_rf (cd_r h 64 1)]) d_Desk_init_39 ca_Desk_init_19 rfl (Nat.le_of_ble_eq_true rfl) (by simp only [List.map_cons, List.map_nil, cd_cat_rf]; exact Nat.le_of_ble_eq_true rfl) ?_
  refine cd_W.mono (fun r2 h3 H => ?_) H
  obtain ⟨rfl, H⟩ := H
  show cd_W X m_Desk_init (kc + 0) (ks + 0) 42 [some (.ref 64), some (.int v1)] [.ref (cd_n h), .int 0, va_rf (cd_r h 64 1)] h3 Q
  obtain ⟨b4, e5, H⟩ := H
  rw [cd_rfs e5]
  obtain ⟨n6, c7, H⟩ := H
  obtain ⟨c8, H⟩ := H
  obtain ⟨c9, H⟩ := H
  obtain ⟨c10, H⟩ := H
  refine cd_aast (j := 0) d_Desk_init_42 rfl c7 c8 c10 cs_4_Key c9 ?_
  refine cd_W.budget (kc := kc) (ks := ks) (by omega) (by omega) ?_
  exact H

theorem d_Desk_init_43 : decode prog_1_method_1_code 43 = .ok (.aload_n 0, 1) := by decide +kernel
theorem d_Desk_init_44 : decode prog_1_method_1_code 44 = .ok (.getfield 15, 3) := by decide +kernel
theorem d_Desk_init_47 : decode prog_1_method_1_code 47 = .ok (.iconst 1, 1) := by decide +kernel
theorem d_Desk_init_48 : decode prog_1_method_1_code 48 = .ok (.new 13, 3) := by decide +kernel
theorem d_Desk_init_51 : decode prog_1_method_1_code 51 = .ok (.dup, 1) := by decide +kernel
theorem d_Desk_init_52 : decode prog_1_method_1_code 52 = .ok (.iconst 1, 1) := by decide +kernel
theorem d_Desk_init_53 : decode prog_1_method_1_code 53 = .ok (.ldc 22, 2) := by decide +kernel
theorem kw_1_58 : (Jvm.Cond.constant "CertificateDesk" (22 : Nat) (47053 : Int32)) ∈ cd_tbl := tb_1 (List.mem_of_getElem? (i := 58) (by decide +kernel)) (by decide)
theorem d_Desk_init_55 : decode prog_1_method_1_code 55 = .ok (.bipush 11, 2) := by decide +kernel
theorem d_Desk_init_57 : decode prog_1_method_1_code 57 = .ok (.sipush 5651, 3) := by decide +kernel
theorem d_Desk_init_60 : decode prog_1_method_1_code 60 = .ok (.invokespecial 19, 3) := by decide +kernel
theorem d_Desk_init_63 : decode prog_1_method_1_code 63 = .ok (.aastore, 1) := by decide +kernel
theorem g_Desk_init_43 {X : cd_E} {kc ks : Nat} {h : cd_H} {Q : Option Value → cd_H → Prop} {v1 : Int32} (H : (cd_k h 64 = some (.inl 0)) ∧ (cd_W X m_Key_init 0 0 0 [some (.ref (cd_n h)), some (.int 1), some (.int 47053), some (.int 11), some (.int 5651)] [] (cd_new h (.inl 4)) (fun r2 h3 => (r2 = none) ∧ ((∃ b4 : Nat, (cd_r h 64 1) = some b4 ∧ ((∃ n6 : Nat, cd_k h3 b4 = some (.inr (4, n6)) ∧ ((64 ≤ b4) ∧ ((vp_in 1 n6) ∧ ((cd_k h3 (cd_n h) = some (.inl 4)) ∧ (cd_W X m_Desk_init kc ks 64 [some (.ref 64), some (.int v1)] [] (cd_sr h3 b4 (1 : Int32).toNatClampNeg (some (cd_n h))) Q))))))))))) : cd_W X m_Desk_init (kc + 1) (ks + 4) 43 [some (.ref 64), some (.int v1)] [] h Q := by
  refine cd_aload_n (i := 0) (v := .ref 64) d_Desk_init_43 rfl rfl (cd_isr_ref _) ?_
  obtain ⟨c1, H⟩ := H
  refine cd_get (v := va_rf (cd_r h 64 1)) d_Desk_init_44 fl_Desk_15 c1 rfl ?_
  refine cd_iconst (v := 1) d_Desk_init_47 (by decide) ?_
  refine cd_newo (n := 4) (kc := (kc + 0)) (ks := (ks + 0)) d_Desk_init_48 nc_Desk_13 ?_
  show cd_W X m_Desk_init (kc + 0) (ks + 0) 51 [some (.ref 64), some (.int v1)] [.ref (cd_n h), .int 1, va_rf (cd_r h 64 1)] (cd_new h (.inl 4)) Q
  refine cd_dup d_Desk_init_51 rfl ?_
  refine cd_iconst (v := 1) d_Desk_init_52 (by decide) ?_
  refine cd_ldc (v := 47053) d_Desk_init_53 kw_1_58 ?_
  refine cd_bipush (v := 11) d_Desk_init_55 (by decide) ?_
  refine cd_sipush (v := 5651) d_Desk_init_57 (by decide) ?_
  refine cd_callI (kc := (kc + 0)) (ks := (ks + 0)) (kc' := 0) (ks' := 0) (As := [.int 1, .int 47053, .int 11, .int 5651]) (S := [.ref (cd_n h), .int 1, va_rf (cd_r h 64 1)]) d_Desk_init_60 ca_Desk_init_19 rfl (Nat.le_of_ble_eq_true rfl) (by simp only [List.map_cons, List.map_nil, cd_cat_rf]; exact Nat.le_of_ble_eq_true rfl) ?_
  refine cd_W.mono (fun r2 h3 H => ?_) H
  obtain ⟨rfl, H⟩ := H
  show cd_W X m_Desk_init (kc + 0) (ks + 0) 63 [some (.ref 64), some (.int v1)] [.ref (cd_n h), .int 1, va_rf (cd_r h 64 1)] h3 Q
  obtain ⟨b4, e5, H⟩ := H
  rw [cd_rfs e5]
  obtain ⟨n6, c7, H⟩ := H
  obtain ⟨c8, H⟩ := H
  obtain ⟨c9, H⟩ := H
  obtain ⟨c10, H⟩ := H
  refine cd_aast (j := 1) d_Desk_init_63 rfl c7 c8 c10 cs_4_Key c9 ?_
  refine cd_W.budget (kc := kc) (ks := ks) (by omega) (by omega) ?_
  exact H

theorem d_Desk_init_64 : decode prog_1_method_1_code 64 = .ok (.aload_n 0, 1) := by decide +kernel
theorem d_Desk_init_65 : decode prog_1_method_1_code 65 = .ok (.getfield 15, 3) := by decide +kernel
theorem d_Desk_init_68 : decode prog_1_method_1_code 68 = .ok (.iconst 2, 1) := by decide +kernel
theorem d_Desk_init_69 : decode prog_1_method_1_code 69 = .ok (.new 13, 3) := by decide +kernel
theorem d_Desk_init_72 : decode prog_1_method_1_code 72 = .ok (.dup, 1) := by decide +kernel
theorem d_Desk_init_73 : decode prog_1_method_1_code 73 = .ok (.iconst 2, 1) := by decide +kernel
theorem d_Desk_init_74 : decode prog_1_method_1_code 74 = .ok (.ldc 23, 2) := by decide +kernel
theorem kw_1_59 : (Jvm.Cond.constant "CertificateDesk" (23 : Nat) (1022117 : Int32)) ∈ cd_tbl := tb_1 (List.mem_of_getElem? (i := 59) (by decide +kernel)) (by decide)
theorem d_Desk_init_76 : decode prog_1_method_1_code 76 = .ok (.iconst 5, 1) := by decide +kernel
theorem d_Desk_init_77 : decode prog_1_method_1_code 77 = .ok (.ldc 24, 2) := by decide +kernel
theorem kw_1_60 : (Jvm.Cond.constant "CertificateDesk" (24 : Nat) (51005 : Int32)) ∈ cd_tbl := tb_1 (List.mem_of_getElem? (i := 60) (by decide +kernel)) (by decide)
theorem d_Desk_init_79 : decode prog_1_method_1_code 79 = .ok (.invokespecial 19, 3) := by decide +kernel
theorem d_Desk_init_82 : decode prog_1_method_1_code 82 = .ok (.aastore, 1) := by decide +kernel
theorem g_Desk_init_64 {X : cd_E} {kc ks : Nat} {h : cd_H} {Q : Option Value → cd_H → Prop} {v1 : Int32} (H : (cd_k h 64 = some (.inl 0)) ∧ (cd_W X m_Key_init 0 0 0 [some (.ref (cd_n h)), some (.int 2), some (.int 1022117), some (.int 5), some (.int 51005)] [] (cd_new h (.inl 4)) (fun r2 h3 => (r2 = none) ∧ ((∃ b4 : Nat, (cd_r h 64 1) = some b4 ∧ ((∃ n6 : Nat, cd_k h3 b4 = some (.inr (4, n6)) ∧ ((64 ≤ b4) ∧ ((vp_in 2 n6) ∧ ((cd_k h3 (cd_n h) = some (.inl 4)) ∧ (cd_W X m_Desk_init kc ks 83 [some (.ref 64), some (.int v1)] [] (cd_sr h3 b4 (2 : Int32).toNatClampNeg (some (cd_n h))) Q))))))))))) : cd_W X m_Desk_init (kc + 1) (ks + 4) 64 [some (.ref 64), some (.int v1)] [] h Q := by
  refine cd_aload_n (i := 0) (v := .ref 64) d_Desk_init_64 rfl rfl (cd_isr_ref _) ?_
  obtain ⟨c1, H⟩ := H
  refine cd_get (v := va_rf (cd_r h 64 1)) d_Desk_init_65 fl_Desk_15 c1 rfl ?_
  refine cd_iconst (v := 2) d_Desk_init_68 (by decide) ?_
  refine cd_newo (n := 4) (kc := (kc + 0)) (ks := (ks + 0)) d_Desk_init_69 nc_Desk_13 ?_
  show cd_W X m_Desk_init (kc + 0) (ks + 0) 72 [some (.ref 64), some (.int v1)] [.ref (cd_n h), .int 2, va_rf (cd_r h 64 1)] (cd_new h (.inl 4)) Q
  refine cd_dup d_Desk_init_72 rfl ?_
  refine cd_iconst (v := 2) d_Desk_init_73 (by decide) ?_
  refine cd_ldc (v := 1022117) d_Desk_init_74 kw_1_59 ?_
  refine cd_iconst (v := 5) d_Desk_init_76 (by decide) ?_
  refine cd_ldc (v := 51005) d_Desk_init_77 kw_1_60 ?_
  refine cd_callI (kc := (kc + 0)) (ks := (ks + 0)) (kc' := 0) (ks' := 0) (As := [.int 2, .int 1022117, .int 5, .int 51005]) (S := [.ref (cd_n h), .int 2, va_rf (cd_r h 64 1)]) d_Desk_init_79 ca_Desk_init_19 rfl (Nat.le_of_ble_eq_true rfl) (by simp only [List.map_cons, List.map_nil, cd_cat_rf]; exact Nat.le_of_ble_eq_true rfl) ?_
  refine cd_W.mono (fun r2 h3 H => ?_) H
  obtain ⟨rfl, H⟩ := H
  show cd_W X m_Desk_init (kc + 0) (ks + 0) 82 [some (.ref 64), some (.int v1)] [.ref (cd_n h), .int 2, va_rf (cd_r h 64 1)] h3 Q
  obtain ⟨b4, e5, H⟩ := H
  rw [cd_rfs e5]
  obtain ⟨n6, c7, H⟩ := H
  obtain ⟨c8, H⟩ := H
  obtain ⟨c9, H⟩ := H
  obtain ⟨c10, H⟩ := H
  refine cd_aast (j := 2) d_Desk_init_82 rfl c7 c8 c10 cs_4_Key c9 ?_
  refine cd_W.budget (kc := kc) (ks := ks) (by omega) (by omega) ?_
  exact H

theorem d_Desk_init_83 : decode prog_1_method_1_code 83 = .ok (.aload_n 0, 1) := by decide +kernel
theorem d_Desk_init_84 : decode prog_1_method_1_code 84 = .ok (.getfield 15, 3) := by decide +kernel
theorem d_Desk_init_87 : decode prog_1_method_1_code 87 = .ok (.iconst 3, 1) := by decide +kernel
theorem d_Desk_init_88 : decode prog_1_method_1_code 88 = .ok (.new 13, 3) := by decide +kernel
theorem d_Desk_init_91 : decode prog_1_method_1_code 91 = .ok (.dup, 1) := by decide +kernel
theorem d_Desk_init_92 : decode prog_1_method_1_code 92 = .ok (.iconst 3, 1) := by decide +kernel
theorem d_Desk_init_93 : decode prog_1_method_1_code 93 = .ok (.ldc 25, 2) := by decide +kernel
theorem kw_1_61 : (Jvm.Cond.constant "CertificateDesk" (25 : Nat) (100160063 : Int32)) ∈ cd_tbl := tb_1 (List.mem_of_getElem? (i := 61) (by decide +kernel)) (by decide)
theorem d_Desk_init_95 : decode prog_1_method_1_code 95 = .ok (.bipush 7, 2) := by decide +kernel
theorem d_Desk_init_97 : decode prog_1_method_1_code 97 = .ok (.ldc 26, 2) := by decide +kernel
theorem kw_1_62 : (Jvm.Cond.constant "CertificateDesk" (26 : Nat) (35764303 : Int32)) ∈ cd_tbl := tb_1 (List.mem_of_getElem? (i := 62) (by decide +kernel)) (by decide)
theorem d_Desk_init_99 : decode prog_1_method_1_code 99 = .ok (.invokespecial 19, 3) := by decide +kernel
theorem d_Desk_init_102 : decode prog_1_method_1_code 102 = .ok (.aastore, 1) := by decide +kernel
theorem g_Desk_init_83 {X : cd_E} {kc ks : Nat} {h : cd_H} {Q : Option Value → cd_H → Prop} {v1 : Int32} (H : (cd_k h 64 = some (.inl 0)) ∧ (cd_W X m_Key_init 0 0 0 [some (.ref (cd_n h)), some (.int 3), some (.int 100160063), some (.int 7), some (.int 35764303)] [] (cd_new h (.inl 4)) (fun r2 h3 => (r2 = none) ∧ ((∃ b4 : Nat, (cd_r h 64 1) = some b4 ∧ ((∃ n6 : Nat, cd_k h3 b4 = some (.inr (4, n6)) ∧ ((64 ≤ b4) ∧ ((vp_in 3 n6) ∧ ((cd_k h3 (cd_n h) = some (.inl 4)) ∧ (cd_W X m_Desk_init kc ks 103 [some (.ref 64), some (.int v1)] [] (cd_sr h3 b4 (3 : Int32).toNatClampNeg (some (cd_n h))) Q))))))))))) : cd_W X m_Desk_init (kc + 1) (ks + 4) 83 [some (.ref 64), some (.int v1)] [] h Q := by
  refine cd_aload_n (i := 0) (v := .ref 64) d_Desk_init_83 rfl rfl (cd_isr_ref _) ?_
  obtain ⟨c1, H⟩ := H
  refine cd_get (v := va_rf (cd_r h 64 1)) d_Desk_init_84 fl_Desk_15 c1 rfl ?_
  refine cd_iconst (v := 3) d_Desk_init_87 (by decide) ?_
  refine cd_newo (n := 4) (kc := (kc + 0)) (ks := (ks + 0)) d_Desk_init_88 nc_Desk_13 ?_
  show cd_W X m_Desk_init (kc + 0) (ks + 0) 91 [some (.ref 64), some (.int v1)] [.ref (cd_n h), .int 3, va_rf (cd_r h 64 1)] (cd_new h (.inl 4)) Q
  refine cd_dup d_Desk_init_91 rfl ?_
  refine cd_iconst (v := 3) d_Desk_init_92 (by decide) ?_
  refine cd_ldc (v := 100160063) d_Desk_init_93 kw_1_61 ?_
  refine cd_bipush (v := 7) d_Desk_init_95 (by decide) ?_
  refine cd_ldc (v := 35764303) d_Desk_init_97 kw_1_62 ?_
  refine cd_callI (kc := (kc + 0)) (ks := (ks + 0)) (kc' := 0) (ks' := 0) (As := [.int 3, .int 100160063, .int 7, .int 35764303]) (S := [.ref (cd_n h), .int 3, va_rf (cd_r h 64 1)]) d_Desk_init_99 ca_Desk_init_19 rfl (Nat.le_of_ble_eq_true rfl) (by simp only [List.map_cons, List.map_nil, cd_cat_rf]; exact Nat.le_of_ble_eq_true rfl) ?_
  refine cd_W.mono (fun r2 h3 H => ?_) H
  obtain ⟨rfl, H⟩ := H
  show cd_W X m_Desk_init (kc + 0) (ks + 0) 102 [some (.ref 64), some (.int v1)] [.ref (cd_n h), .int 3, va_rf (cd_r h 64 1)] h3 Q
  obtain ⟨b4, e5, H⟩ := H
  rw [cd_rfs e5]
  obtain ⟨n6, c7, H⟩ := H
  obtain ⟨c8, H⟩ := H
  obtain ⟨c9, H⟩ := H
  obtain ⟨c10, H⟩ := H
  refine cd_aast (j := 3) d_Desk_init_102 rfl c7 c8 c10 cs_4_Key c9 ?_
  refine cd_W.budget (kc := kc) (ks := ks) (by omega) (by omega) ?_
  exact H

theorem d_Desk_init_103 : decode prog_1_method_1_code 103 = .ok (.aload_n 0, 1) := by decide +kernel
theorem d_Desk_init_104 : decode prog_1_method_1_code 104 = .ok (.new 13, 3) := by decide +kernel
theorem d_Desk_init_107 : decode prog_1_method_1_code 107 = .ok (.dup, 1) := by decide +kernel
theorem d_Desk_init_108 : decode prog_1_method_1_code 108 = .ok (.iconst (-1), 1) := by decide +kernel
theorem d_Desk_init_109 : decode prog_1_method_1_code 109 = .ok (.ldc 27, 2) := by decide +kernel
theorem kw_1_63 : (Jvm.Cond.constant "CertificateDesk" (27 : Nat) (1071514531 : Int32)) ∈ cd_tbl := tb_1 (List.mem_of_getElem? (i := 63) (by decide +kernel)) (by decide)
theorem d_Desk_init_111 : decode prog_1_method_1_code 111 = .ok (.ldc 28, 2) := by decide +kernel
theorem kw_1_64 : (Jvm.Cond.constant "CertificateDesk" (28 : Nat) (65537 : Int32)) ∈ cd_tbl := tb_1 (List.mem_of_getElem? (i := 64) (by decide +kernel)) (by decide)
theorem d_Desk_init_113 : decode prog_1_method_1_code 113 = .ok (.ldc 29, 2) := by decide +kernel
theorem kw_1_65 : (Jvm.Cond.constant "CertificateDesk" (29 : Nat) (100089869 : Int32)) ∈ cd_tbl := tb_1 (List.mem_of_getElem? (i := 65) (by decide +kernel)) (by decide)
theorem d_Desk_init_115 : decode prog_1_method_1_code 115 = .ok (.invokespecial 19, 3) := by decide +kernel
theorem d_Desk_init_118 : decode prog_1_method_1_code 118 = .ok (.putfield 30, 3) := by decide +kernel
theorem fp_Desk_init_30 {X : cd_E} : cd_FP X m_Desk_init 30 0 2 (.object "CertificateDesk$Key") := cd_FP.of cl_0 rfl rfl (by decide) kw_1_144 (Or.inl rfl) (Or.inr ⟨rfl, rfl, rfl⟩)
theorem g_Desk_init_103 {X : cd_E} {kc ks : Nat} {h : cd_H} {Q : Option Value → cd_H → Prop} {v1 : Int32} (H : cd_W X m_Key_init 0 0 0 [some (.ref (cd_n h)), some (.int (-1)), some (.int 1071514531), some (.int 65537), some (.int 100089869)] [] (cd_new h (.inl 4)) (fun r1 h2 => (r1 = none) ∧ ((cd_k h2 64 = some (.inl 0)) ∧ (cd_W X m_Desk_init kc ks 121 [some (.ref 64), some (.int v1)] [] (cd_sr h2 64 2 (some (cd_n h))) Q)))) : cd_W X m_Desk_init (kc + 1) (ks + 4) 103 [some (.ref 64), some (.int v1)] [] h Q := by
  refine cd_aload_n (i := 0) (v := .ref 64) d_Desk_init_103 rfl rfl (cd_isr_ref _) ?_
  refine cd_newo (n := 4) (kc := (kc + 0)) (ks := (ks + 0)) d_Desk_init_104 nc_Desk_13 ?_
  refine cd_dup d_Desk_init_107 rfl ?_
  refine cd_iconst (v := (-1)) d_Desk_init_108 (by decide) ?_
  refine cd_ldc (v := 1071514531) d_Desk_init_109 kw_1_63 ?_
  refine cd_ldc (v := 65537) d_Desk_init_111 kw_1_64 ?_
  show cd_W X m_Desk_init (kc + 0) (ks + 0) 113 [some (.ref 64), some (.int v1)] [.int 65537, .int 1071514531, .int (-1), .ref (cd_n h), .ref (cd_n h), .ref 64] (cd_new h (.inl 4)) Q
  refine cd_ldc (v := 100089869) d_Desk_init_113 kw_1_65 ?_
  refine cd_callI (kc := (kc + 0)) (ks := (ks + 0)) (kc' := 0) (ks' := 0) (As := [.int (-1), .int 1071514531, .int 65537, .int 100089869]) (S := [.ref (cd_n h), .ref 64]) d_Desk_init_115 ca_Desk_init_19 rfl (Nat.le_of_ble_eq_true rfl) (Nat.le_of_ble_eq_true rfl) ?_
  refine cd_W.mono (fun r1 h2 H => ?_) H
  obtain ⟨rfl, H⟩ := H
  show cd_W X m_Desk_init (kc + 0) (ks + 0) 118 [some (.ref 64), some (.int v1)] [.ref (cd_n h), .ref 64] h2 Q
  obtain ⟨c3, H⟩ := H
  refine cd_putR (o := (some (cd_n h))) d_Desk_init_118 fp_Desk_init_30 (Or.inl ⟨_, rfl⟩) c3 (by decide) ?_
  refine cd_W.budget (kc := kc) (ks := ks) (by omega) (by omega) ?_
  exact H

theorem d_Desk_init_121 : decode prog_1_method_1_code 121 = .ok (.aload_n 0, 1) := by decide +kernel
theorem d_Desk_init_122 : decode prog_1_method_1_code 122 = .ok (.new 34, 3) := by decide +kernel
theorem kw_1_66 : (Jvm.Cond.classLink "CertificateDesk" (34 : Nat) "CertificateDesk$Notation") ∈ cd_tbl := tb_1 (List.mem_of_getElem? (i := 66) (by decide +kernel)) (by decide)
theorem nc_Desk_34 : cd_NC "CertificateDesk" 34 6 2 := cd_NC.of cl_6 rfl kw_1_66
theorem d_Desk_init_125 : decode prog_1_method_1_code 125 = .ok (.dup, 1) := by decide +kernel
theorem d_Desk_init_126 : decode prog_1_method_1_code 126 = .ok (.invokespecial 36, 3) := by decide +kernel
theorem kw_1_70 : (Jvm.Cond.code ({ cls := "CertificateDesk$Notation", name := "<init>", desc := "()V" } : Jvm.MethodName) prog_9_method_1_code (1 : Nat) (Option.none : Option Jvm.ClassFile.FieldType)) ∈ cd_tbl := tb_1 (List.mem_of_getElem? (i := 70) (by decide +kernel)) (by decide)
theorem kw_1_69 : (Jvm.Cond.instanceMethod ({ cls := "CertificateDesk$Notation", name := "<init>", desc := "()V" } : Jvm.MethodName)) ∈ cd_tbl := tb_1 (List.mem_of_getElem? (i := 69) (by decide +kernel)) (by decide)
theorem ca_Desk_init_36 {X : cd_E} : cd_CI X m_Desk_init m_Not_init 36 0 := ⟨⟨by decide, kw_1_70, kw_1_3, ⟨by decide, by decide, by decide +kernel⟩, by decide, by decide⟩, rfl, rfl, kw_1_69, (Or.inr ⟨"CertificateDesk", fun _ hG => hG.2.1 _ (List.mem_of_getElem? (i := 0) rfl)⟩)⟩
theorem d_Desk_init_129 : decode prog_1_method_1_code 129 = .ok (.putfield 37, 3) := by decide +kernel
theorem fp_Desk_init_37 {X : cd_E} : cd_FP X m_Desk_init 37 0 3 (.object "CertificateDesk$Notation") := cd_FP.of cl_0 rfl rfl (by decide) kw_1_145 (Or.inl rfl) (Or.inr ⟨rfl, rfl, rfl⟩)
theorem g_Desk_init_121 {X : cd_E} {kc ks : Nat} {h : cd_H} {Q : Option Value → cd_H → Prop} {v1 : Int32} (H : cd_W X m_Not_init 1 96 0 [some (.ref (cd_n h))] [] (cd_new h (.inl 6)) (fun r1 h2 => (r1 = none) ∧ ((cd_k h2 64 = some (.inl 0)) ∧ (cd_W X m_Desk_init kc ks 132 [some (.ref 64), some (.int v1)] [] (cd_sr h2 64 3 (some (cd_n h))) Q)))) : cd_W X m_Desk_init (kc + 2) (ks + 98) 121 [some (.ref 64), some (.int v1)] [] h Q := by
  refine cd_aload_n (i := 0) (v := .ref 64) d_Desk_init_121 rfl rfl (cd_isr_ref _) ?_
  refine cd_newo (n := 2) (kc := (kc + 1)) (ks := (ks + 96)) d_Desk_init_122 nc_Desk_34 ?_
  show cd_W X m_Desk_init (kc + 1) (ks + 96) 125 [some (.ref 64), some (.int v1)] [.ref (cd_n h), .ref 64] (cd_new h (.inl 6)) Q
  refine cd_dup d_Desk_init_125 rfl ?_
  refine cd_callI (kc := (kc + 0)) (ks := (ks + 0)) (kc' := 1) (ks' := 96) (As := []) (S := [.ref (cd_n h), .ref 64]) d_Desk_init_126 ca_Desk_init_36 rfl (Nat.le_of_ble_eq_true rfl) (Nat.le_of_ble_eq_true rfl) ?_
  refine cd_W.mono (fun r1 h2 H => ?_) H
  obtain ⟨rfl, H⟩ := H
  show cd_W X m_Desk_init (kc + 0) (ks + 0) 129 [some (.ref 64), some (.int v1)] [.ref (cd_n h), .ref 64] h2 Q
  obtain ⟨c3, H⟩ := H
  refine cd_putR (o := (some (cd_n h))) d_Desk_init_129 fp_Desk_init_37 (Or.inl ⟨_, rfl⟩) c3 (by decide) ?_
  refine cd_W.budget (kc := kc) (ks := ks) (by omega) (by omega) ?_
  exact H

theorem d_Desk_init_132 : decode prog_1_method_1_code 132 = .ok (.aload_n 0, 1) := by decide +kernel
theorem d_Desk_init_133 : decode prog_1_method_1_code 133 = .ok (.bipush 32, 2) := by decide +kernel
theorem d_Desk_init_135 : decode prog_1_method_1_code 135 = .ok (.newarray .int, 2) := by decide +kernel
theorem d_Desk_init_137 : decode prog_1_method_1_code 137 = .ok (.putfield 41, 3) := by decide +kernel
theorem fp_Desk_init_41 {X : cd_E} : cd_FP X m_Desk_init 41 0 4 (.array .int) := cd_FP.of cl_0 rfl rfl (by decide) kw_1_146 (Or.inl rfl) (Or.inr ⟨rfl, rfl, rfl⟩)
theorem g_Desk_init_132 {X : cd_E} {kc ks : Nat} {h : cd_H} {Q : Option Value → cd_H → Prop} {v1 : Int32} (H : (cd_k (cd_new h (.inr (0, 32))) 64 = some (.inl 0)) ∧ (cd_W X m_Desk_init kc ks 140 [some (.ref 64), some (.int v1)] [] (cd_sr (cd_new h (.inr (0, 32))) 64 4 (some (cd_n h))) Q)) : cd_W X m_Desk_init (kc + 1) (ks + 32) 132 [some (.ref 64), some (.int v1)] [] h Q := by
  refine cd_aload_n (i := 0) (v := .ref 64) d_Desk_init_132 rfl rfl (cd_isr_ref _) ?_
  refine cd_bipush (v := 32) d_Desk_init_133 (by decide) ?_
  refine cd_newa (z := 0) (N := 32) (kc := (kc + 0)) (ks := (ks + 0)) d_Desk_init_135 rfl kw_1_96 rfl (by decide) (by decide) (by decide) ?_
  show cd_W X m_Desk_init (kc + 0) (ks + 0) 137 [some (.ref 64), some (.int v1)] [.ref (cd_n h), .ref 64] (cd_new h (.inr (0, 32))) Q
  obtain ⟨c1, H⟩ := H
  refine cd_putR (o := (some (cd_n h))) d_Desk_init_137 fp_Desk_init_41 (Or.inr ⟨_, rfl⟩) c1 (by decide) ?_
  refine cd_W.budget (kc := kc) (ks := ks) (by omega) (by omega) ?_
  exact H

theorem d_Desk_init_140 : decode prog_1_method_1_code 140 = .ok (.aload_n 0, 1) := by decide +kernel
theorem d_Desk_init_141 : decode prog_1_method_1_code 141 = .ok (.new 45, 3) := by decide +kernel
theorem kw_1_80 : (Jvm.Cond.classLink "CertificateDesk" (45 : Nat) "CertificateDesk$Nonces") ∈ cd_tbl := tb_1 (List.mem_of_getElem? (i := 80) (by decide +kernel)) (by decide)
theorem nc_Desk_45 : cd_NC "CertificateDesk" 45 5 3 := cd_NC.of cl_5 rfl kw_1_80
theorem d_Desk_init_144 : decode prog_1_method_1_code 144 = .ok (.dup, 1) := by decide +kernel
theorem d_Desk_init_145 : decode prog_1_method_1_code 145 = .ok (.invokespecial 47, 3) := by decide +kernel
theorem kw_1_84 : (Jvm.Cond.code ({ cls := "CertificateDesk$Nonces", name := "<init>", desc := "()V" } : Jvm.MethodName) prog_8_method_1_code (1 : Nat) (Option.none : Option Jvm.ClassFile.FieldType)) ∈ cd_tbl := tb_1 (List.mem_of_getElem? (i := 84) (by decide +kernel)) (by decide)
theorem kw_1_83 : (Jvm.Cond.instanceMethod ({ cls := "CertificateDesk$Nonces", name := "<init>", desc := "()V" } : Jvm.MethodName)) ∈ cd_tbl := tb_1 (List.mem_of_getElem? (i := 83) (by decide +kernel)) (by decide)
theorem ca_Desk_init_47 {X : cd_E} : cd_CI X m_Desk_init m_Non_init 47 0 := ⟨⟨by decide, kw_1_84, kw_1_4, ⟨by decide, by decide, by decide +kernel⟩, by decide, by decide⟩, rfl, rfl, kw_1_83, (Or.inr ⟨"CertificateDesk", fun _ hG => hG.2.1 _ (List.mem_of_getElem? (i := 1) rfl)⟩)⟩
theorem d_Desk_init_148 : decode prog_1_method_1_code 148 = .ok (.putfield 48, 3) := by decide +kernel
theorem fp_Desk_init_48 {X : cd_E} : cd_FP X m_Desk_init 48 0 5 (.object "CertificateDesk$Nonces") := cd_FP.of cl_0 rfl rfl (by decide) kw_1_147 (Or.inl rfl) (Or.inr ⟨rfl, rfl, rfl⟩)
theorem g_Desk_init_140 {X : cd_E} {kc ks : Nat} {h : cd_H} {Q : Option Value → cd_H → Prop} {v1 : Int32} (H : cd_W X m_Non_init 1 512 0 [some (.ref (cd_n h))] [] (cd_new h (.inl 5)) (fun r1 h2 => (r1 = none) ∧ ((cd_k h2 64 = some (.inl 0)) ∧ (cd_W X m_Desk_init kc ks 151 [some (.ref 64), some (.int v1)] [] (cd_sr h2 64 5 (some (cd_n h))) Q)))) : cd_W X m_Desk_init (kc + 2) (ks + 515) 140 [some (.ref 64), some (.int v1)] [] h Q := by
  refine cd_aload_n (i := 0) (v := .ref 64) d_Desk_init_140 rfl rfl (cd_isr_ref _) ?_
  refine cd_newo (n := 3) (kc := (kc + 1)) (ks := (ks + 512)) d_Desk_init_141 nc_Desk_45 ?_
  show cd_W X m_Desk_init (kc + 1) (ks + 512) 144 [some (.ref 64), some (.int v1)] [.ref (cd_n h), .ref 64] (cd_new h (.inl 5)) Q
  refine cd_dup d_Desk_init_144 rfl ?_
  refine cd_callI (kc := (kc + 0)) (ks := (ks + 0)) (kc' := 1) (ks' := 512) (As := []) (S := [.ref (cd_n h), .ref 64]) d_Desk_init_145 ca_Desk_init_47 rfl (Nat.le_of_ble_eq_true rfl) (Nat.le_of_ble_eq_true rfl) ?_
  refine cd_W.mono (fun r1 h2 H => ?_) H
  obtain ⟨rfl, H⟩ := H
  show cd_W X m_Desk_init (kc + 0) (ks + 0) 148 [some (.ref 64), some (.int v1)] [.ref (cd_n h), .ref 64] h2 Q
  obtain ⟨c3, H⟩ := H
  refine cd_putR (o := (some (cd_n h))) d_Desk_init_148 fp_Desk_init_48 (Or.inl ⟨_, rfl⟩) c3 (by decide) ?_
  refine cd_W.budget (kc := kc) (ks := ks) (by omega) (by omega) ?_
  exact H

theorem d_Desk_init_151 : decode prog_1_method_1_code 151 = .ok (.aload_n 0, 1) := by decide +kernel
theorem d_Desk_init_152 : decode prog_1_method_1_code 152 = .ok (.new 52, 3) := by decide +kernel
theorem kw_1_98 : (Jvm.Cond.classLink "CertificateDesk" (52 : Nat) "CertificateDesk$Store") ∈ cd_tbl := tb_1 (List.mem_of_getElem? (i := 98) (by decide +kernel)) (by decide)
theorem nc_Desk_52 : cd_NC "CertificateDesk" 52 9 2 := cd_NC.of cl_9 rfl kw_1_98
theorem d_Desk_init_155 : decode prog_1_method_1_code 155 = .ok (.dup, 1) := by decide +kernel
theorem d_Desk_init_156 : decode prog_1_method_1_code 156 = .ok (.invokespecial 54, 3) := by decide +kernel
theorem kw_1_102 : (Jvm.Cond.code ({ cls := "CertificateDesk$Store", name := "<init>", desc := "()V" } : Jvm.MethodName) prog_12_method_1_code (1 : Nat) (Option.none : Option Jvm.ClassFile.FieldType)) ∈ cd_tbl := tb_1 (List.mem_of_getElem? (i := 102) (by decide +kernel)) (by decide)
theorem kw_1_101 : (Jvm.Cond.instanceMethod ({ cls := "CertificateDesk$Store", name := "<init>", desc := "()V" } : Jvm.MethodName)) ∈ cd_tbl := tb_1 (List.mem_of_getElem? (i := 101) (by decide +kernel)) (by decide)
theorem ca_Desk_init_54 {X : cd_E} : cd_CI X m_Desk_init m_Sto_init 54 0 := ⟨⟨by decide, kw_1_102, kw_1_5, ⟨by decide, by decide, by decide +kernel⟩, by decide, by decide⟩, rfl, rfl, kw_1_101, (Or.inr ⟨"CertificateDesk", fun _ hG => hG.2.1 _ (List.mem_of_getElem? (i := 2) rfl)⟩)⟩
theorem d_Desk_init_159 : decode prog_1_method_1_code 159 = .ok (.putfield 55, 3) := by decide +kernel
theorem fp_Desk_init_55 {X : cd_E} : cd_FP X m_Desk_init 55 0 6 (.object "CertificateDesk$Store") := cd_FP.of cl_0 rfl rfl (by decide) kw_1_148 (Or.inl rfl) (Or.inr ⟨rfl, rfl, rfl⟩)
theorem g_Desk_init_151 {X : cd_E} {kc ks : Nat} {h : cd_H} {Q : Option Value → cd_H → Prop} {v1 : Int32} (H : cd_W X m_Sto_init 0 0 0 [some (.ref (cd_n h))] [] (cd_new h (.inl 9)) (fun r1 h2 => (r1 = none) ∧ ((cd_k h2 64 = some (.inl 0)) ∧ (cd_W X m_Desk_init kc ks 162 [some (.ref 64), some (.int v1)] [] (cd_sr h2 64 6 (some (cd_n h))) Q)))) : cd_W X m_Desk_init (kc + 1) (ks + 2) 151 [some (.ref 64), some (.int v1)] [] h Q := by
  refine cd_aload_n (i := 0) (v := .ref 64) d_Desk_init_151 rfl rfl (cd_isr_ref _) ?_
  refine cd_newo (n := 2) (kc := (kc + 0)) (ks := (ks + 0)) d_Desk_init_152 nc_Desk_52 ?_
  show cd_W X m_Desk_init (kc + 0) (ks + 0) 155 [some (.ref 64), some (.int v1)] [.ref (cd_n h), .ref 64] (cd_new h (.inl 9)) Q
  refine cd_dup d_Desk_init_155 rfl ?_
  refine cd_callI (kc := (kc + 0)) (ks := (ks + 0)) (kc' := 0) (ks' := 0) (As := []) (S := [.ref (cd_n h), .ref 64]) d_Desk_init_156 ca_Desk_init_54 rfl (Nat.le_of_ble_eq_true rfl) (Nat.le_of_ble_eq_true rfl) ?_
  refine cd_W.mono (fun r1 h2 H => ?_) H
  obtain ⟨rfl, H⟩ := H
  show cd_W X m_Desk_init (kc + 0) (ks + 0) 159 [some (.ref 64), some (.int v1)] [.ref (cd_n h), .ref 64] h2 Q
  obtain ⟨c3, H⟩ := H
  refine cd_putR (o := (some (cd_n h))) d_Desk_init_159 fp_Desk_init_55 (Or.inl ⟨_, rfl⟩) c3 (by decide) ?_
  refine cd_W.budget (kc := kc) (ks := ks) (by omega) (by omega) ?_
  exact H

theorem d_Desk_init_162 : decode prog_1_method_1_code 162 = .ok (.aload_n 0, 1) := by decide +kernel
theorem d_Desk_init_163 : decode prog_1_method_1_code 163 = .ok (.bipush 48, 2) := by decide +kernel
theorem d_Desk_init_165 : decode prog_1_method_1_code 165 = .ok (.newarray .int, 2) := by decide +kernel
theorem d_Desk_init_167 : decode prog_1_method_1_code 167 = .ok (.putfield 59, 3) := by decide +kernel
theorem fp_Desk_init_59 {X : cd_E} : cd_FP X m_Desk_init 59 0 7 (.array .int) := cd_FP.of cl_0 rfl rfl (by decide) kw_1_149 (Or.inl rfl) (Or.inr ⟨rfl, rfl, rfl⟩)
theorem g_Desk_init_162 {X : cd_E} {kc ks : Nat} {h : cd_H} {Q : Option Value → cd_H → Prop} {v1 : Int32} (H : (cd_k (cd_new h (.inr (0, 48))) 64 = some (.inl 0)) ∧ (cd_W X m_Desk_init kc ks 170 [some (.ref 64), some (.int v1)] [] (cd_sr (cd_new h (.inr (0, 48))) 64 7 (some (cd_n h))) Q)) : cd_W X m_Desk_init (kc + 1) (ks + 48) 162 [some (.ref 64), some (.int v1)] [] h Q := by
  refine cd_aload_n (i := 0) (v := .ref 64) d_Desk_init_162 rfl rfl (cd_isr_ref _) ?_
  refine cd_bipush (v := 48) d_Desk_init_163 (by decide) ?_
  refine cd_newa (z := 0) (N := 48) (kc := (kc + 0)) (ks := (ks + 0)) d_Desk_init_165 rfl kw_1_96 rfl (by decide) (by decide) (by decide) ?_
  show cd_W X m_Desk_init (kc + 0) (ks + 0) 167 [some (.ref 64), some (.int v1)] [.ref (cd_n h), .ref 64] (cd_new h (.inr (0, 48))) Q
  obtain ⟨c1, H⟩ := H
  refine cd_putR (o := (some (cd_n h))) d_Desk_init_167 fp_Desk_init_59 (Or.inr ⟨_, rfl⟩) c1 (by decide) ?_
  refine cd_W.budget (kc := kc) (ks := ks) (by omega) (by omega) ?_
  exact H

theorem d_Desk_init_170 : decode prog_1_method_1_code 170 = .ok (.aload_n 0, 1) := by decide +kernel
theorem d_Desk_init_171 : decode prog_1_method_1_code 171 = .ok (.getfield 59, 3) := by decide +kernel
theorem d_Desk_init_174 : decode prog_1_method_1_code 174 = .ok (.iconst (-1), 1) := by decide +kernel
theorem d_Desk_init_175 : decode prog_1_method_1_code 175 = .ok (.invokestatic 62, 3) := by decide +kernel
theorem kw_1_113 : (Jvm.Cond.methodLink "CertificateDesk" (62 : Nat) ({ cls := "java/util/Arrays", name := "fill", desc := "([II)V" } : Jvm.MethodName)) ∈ cd_tbl := tb_1 (List.mem_of_getElem? (i := 113) (by decide +kernel)) (by decide)
theorem kw_1_115 : (Jvm.Cond.code ({ cls := "java/util/Arrays", name := "fill", desc := "([II)V" } : Jvm.MethodName) prog_29_method_103_code (4 : Nat) (Option.none : Option Jvm.ClassFile.FieldType)) ∈ cd_tbl := tb_1 (List.mem_of_getElem? (i := 115) (by decide +kernel)) (by decide)
theorem kw_1_114 : (Jvm.Cond.static ({ cls := "java/util/Arrays", name := "fill", desc := "([II)V" } : Jvm.MethodName)) ∈ cd_tbl := tb_1 (List.mem_of_getElem? (i := 114) (by decide +kernel)) (by decide)
theorem ca_Desk_init_62 {X : cd_E} : cd_CS X m_Desk_init m_Arr_fill 62 2 := ⟨⟨by decide, kw_1_115, kw_1_6, ⟨by decide, by decide, by decide +kernel⟩, by decide, by decide⟩, kw_1_114, (Or.inl kw_1_113)⟩
theorem g_Desk_init_170 {X : cd_E} {kc ks : Nat} {h : cd_H} {Q : Option Value → cd_H → Prop} {v1 : Int32} (H : (cd_k h 64 = some (.inl 0)) ∧ ((∃ b2 : Nat, (cd_r h 64 7) = some b2 ∧ (cd_W X m_Arr_fill 0 0 0 [some (.ref b2), some (.int (-1)), none, none] [] h (fun r4 h5 => (r4 = none) ∧ (cd_W X m_Desk_init kc ks 178 [some (.ref 64), some (.int v1)] [] h5 Q)))))) : cd_W X m_Desk_init kc ks 170 [some (.ref 64), some (.int v1)] [] h Q := by
  refine cd_aload_n (i := 0) (v := .ref 64) d_Desk_init_170 rfl rfl (cd_isr_ref _) ?_
  obtain ⟨c1, H⟩ := H
  refine cd_get (v := va_rf (cd_r h 64 7)) d_Desk_init_171 fl_Desk_59 c1 rfl ?_
  refine cd_iconst (v := (-1)) d_Desk_init_174 (by decide) ?_
  show cd_W X m_Desk_init kc ks 175 [some (.ref 64), some (.int v1)] [.int (-1), va_rf (cd_r h 64 7)] h Q
  obtain ⟨b2, e3, H⟩ := H
  rw [cd_rfs e3]
  refine cd_callS (kc := kc) (ks := ks) (kc' := 0) (ks' := 0) (As := [.ref b2, .int (-1)]) (S := []) d_Desk_init_175 ca_Desk_init_62 rfl (Nat.le_of_ble_eq_true rfl) (Nat.le_of_ble_eq_true rfl) ?_
  refine cd_W.mono (fun r4 h5 H => ?_) H
  obtain ⟨rfl, H⟩ := H
  show cd_W X m_Desk_init kc ks 178 [some (.ref 64), some (.int v1)] [] h5 Q
  exact H

theorem d_Desk_init_178 : decode prog_1_method_1_code 178 = .ok (.aload_n 0, 1) := by decide +kernel
theorem d_Desk_init_179 : decode prog_1_method_1_code 179 = .ok (.new 68, 3) := by decide +kernel
theorem kw_1_116 : (Jvm.Cond.classLink "CertificateDesk" (68 : Nat) "java/util/ArrayList") ∈ cd_tbl := tb_1 (List.mem_of_getElem? (i := 116) (by decide +kernel)) (by decide)
theorem nc_Desk_68 : cd_NC "CertificateDesk" 68 12 3 := cd_NC.of cl_12 rfl kw_1_116
theorem d_Desk_init_182 : decode prog_1_method_1_code 182 = .ok (.dup, 1) := by decide +kernel
theorem d_Desk_init_183 : decode prog_1_method_1_code 183 = .ok (.invokespecial 70, 3) := by decide +kernel
theorem kw_1_118 : (Jvm.Cond.methodLink "CertificateDesk" (70 : Nat) ({ cls := "java/util/ArrayList", name := "<init>", desc := "()V" } : Jvm.MethodName)) ∈ cd_tbl := tb_1 (List.mem_of_getElem? (i := 118) (by decide +kernel)) (by decide)
theorem ca_Desk_init_70 {X : cd_E} : cd_CI X m_Desk_init m_AL_init_V 70 0 := ⟨⟨by decide, kw_1_120, kw_1_9, ⟨by decide, by decide, by decide +kernel⟩, by decide, by decide⟩, rfl, rfl, kw_1_119, (Or.inl kw_1_118)⟩
theorem d_Desk_init_186 : decode prog_1_method_1_code 186 = .ok (.putfield 71, 3) := by decide +kernel
theorem fp_Desk_init_71 {X : cd_E} : cd_FP X m_Desk_init 71 0 8 (.object "java/util/ArrayList") := cd_FP.of cl_0 rfl rfl (by decide) kw_1_150 (Or.inl rfl) (Or.inr ⟨rfl, rfl, rfl⟩)
theorem g_Desk_init_178 {X : cd_E} {kc ks : Nat} {h : cd_H} {Q : Option Value → cd_H → Prop} {v1 : Int32} (H : cd_W X m_AL_init_V 0 0 0 [some (.ref (cd_n h))] [] (cd_new h (.inl 12)) (fun r1 h2 => (r1 = none) ∧ ((cd_k h2 64 = some (.inl 0)) ∧ (cd_W X m_Desk_init kc ks 189 [some (.ref 64), some (.int v1)] [] (cd_sr h2 64 8 (some (cd_n h))) Q)))) : cd_W X m_Desk_init (kc + 1) (ks + 3) 178 [some (.ref 64), some (.int v1)] [] h Q := by
  refine cd_aload_n (i := 0) (v := .ref 64) d_Desk_init_178 rfl rfl (cd_isr_ref _) ?_
  refine cd_newo (n := 3) (kc := (kc + 0)) (ks := (ks + 0)) d_Desk_init_179 nc_Desk_68 ?_
  show cd_W X m_Desk_init (kc + 0) (ks + 0) 182 [some (.ref 64), some (.int v1)] [.ref (cd_n h), .ref 64] (cd_new h (.inl 12)) Q
  refine cd_dup d_Desk_init_182 rfl ?_
  refine cd_callI (kc := (kc + 0)) (ks := (ks + 0)) (kc' := 0) (ks' := 0) (As := []) (S := [.ref (cd_n h), .ref 64]) d_Desk_init_183 ca_Desk_init_70 rfl (Nat.le_of_ble_eq_true rfl) (Nat.le_of_ble_eq_true rfl) ?_
  refine cd_W.mono (fun r1 h2 H => ?_) H
  obtain ⟨rfl, H⟩ := H
  show cd_W X m_Desk_init (kc + 0) (ks + 0) 186 [some (.ref 64), some (.int v1)] [.ref (cd_n h), .ref 64] h2 Q
  obtain ⟨c3, H⟩ := H
  refine cd_putR (o := (some (cd_n h))) d_Desk_init_186 fp_Desk_init_71 (Or.inl ⟨_, rfl⟩) c3 (by decide) ?_
  refine cd_W.budget (kc := kc) (ks := ks) (by omega) (by omega) ?_
  exact H

theorem d_Desk_init_189 : decode prog_1_method_1_code 189 = .ok (.aload_n 0, 1) := by decide +kernel
theorem d_Desk_init_190 : decode prog_1_method_1_code 190 = .ok (.new 68, 3) := by decide +kernel
theorem d_Desk_init_193 : decode prog_1_method_1_code 193 = .ok (.dup, 1) := by decide +kernel
theorem d_Desk_init_194 : decode prog_1_method_1_code 194 = .ok (.invokespecial 70, 3) := by decide +kernel
theorem d_Desk_init_197 : decode prog_1_method_1_code 197 = .ok (.putfield 75, 3) := by decide +kernel
theorem fp_Desk_init_75 {X : cd_E} : cd_FP X m_Desk_init 75 0 9 (.object "java/util/ArrayList") := cd_FP.of cl_0 rfl rfl (by decide) kw_1_151 (Or.inl rfl) (Or.inr ⟨rfl, rfl, rfl⟩)
theorem g_Desk_init_189 {X : cd_E} {kc ks : Nat} {h : cd_H} {Q : Option Value → cd_H → Prop} {v1 : Int32} (H : cd_W X m_AL_init_V 0 0 0 [some (.ref (cd_n h))] [] (cd_new h (.inl 12)) (fun r1 h2 => (r1 = none) ∧ ((cd_k h2 64 = some (.inl 0)) ∧ (cd_W X m_Desk_init kc ks 200 [some (.ref 64), some (.int v1)] [] (cd_sr h2 64 9 (some (cd_n h))) Q)))) : cd_W X m_Desk_init (kc + 1) (ks + 3) 189 [some (.ref 64), some (.int v1)] [] h Q := by
  refine cd_aload_n (i := 0) (v := .ref 64) d_Desk_init_189 rfl rfl (cd_isr_ref _) ?_
  refine cd_newo (n := 3) (kc := (kc + 0)) (ks := (ks + 0)) d_Desk_init_190 nc_Desk_68 ?_
  show cd_W X m_Desk_init (kc + 0) (ks + 0) 193 [some (.ref 64), some (.int v1)] [.ref (cd_n h), .ref 64] (cd_new h (.inl 12)) Q
  refine cd_dup d_Desk_init_193 rfl ?_
  refine cd_callI (kc := (kc + 0)) (ks := (ks + 0)) (kc' := 0) (ks' := 0) (As := []) (S := [.ref (cd_n h), .ref 64]) d_Desk_init_194 ca_Desk_init_70 rfl (Nat.le_of_ble_eq_true rfl) (Nat.le_of_ble_eq_true rfl) ?_
  refine cd_W.mono (fun r1 h2 H => ?_) H
  obtain ⟨rfl, H⟩ := H
  show cd_W X m_Desk_init (kc + 0) (ks + 0) 197 [some (.ref 64), some (.int v1)] [.ref (cd_n h), .ref 64] h2 Q
  obtain ⟨c3, H⟩ := H
  refine cd_putR (o := (some (cd_n h))) d_Desk_init_197 fp_Desk_init_75 (Or.inl ⟨_, rfl⟩) c3 (by decide) ?_
  refine cd_W.budget (kc := kc) (ks := ks) (by omega) (by omega) ?_
  exact H

theorem d_Desk_init_200 : decode prog_1_method_1_code 200 = .ok (.aload_n 0, 1) := by decide +kernel
theorem d_Desk_init_201 : decode prog_1_method_1_code 201 = .ok (.new 68, 3) := by decide +kernel
theorem d_Desk_init_204 : decode prog_1_method_1_code 204 = .ok (.dup, 1) := by decide +kernel
theorem d_Desk_init_205 : decode prog_1_method_1_code 205 = .ok (.invokespecial 70, 3) := by decide +kernel
theorem d_Desk_init_208 : decode prog_1_method_1_code 208 = .ok (.putfield 78, 3) := by decide +kernel
theorem fp_Desk_init_78 {X : cd_E} : cd_FP X m_Desk_init 78 0 10 (.object "java/util/ArrayList") := cd_FP.of cl_0 rfl rfl (by decide) kw_1_152 (Or.inl rfl) (Or.inr ⟨rfl, rfl, rfl⟩)
theorem g_Desk_init_200 {X : cd_E} {kc ks : Nat} {h : cd_H} {Q : Option Value → cd_H → Prop} {v1 : Int32} (H : cd_W X m_AL_init_V 0 0 0 [some (.ref (cd_n h))] [] (cd_new h (.inl 12)) (fun r1 h2 => (r1 = none) ∧ ((cd_k h2 64 = some (.inl 0)) ∧ (cd_W X m_Desk_init kc ks 211 [some (.ref 64), some (.int v1)] [] (cd_sr h2 64 10 (some (cd_n h))) Q)))) : cd_W X m_Desk_init (kc + 1) (ks + 3) 200 [some (.ref 64), some (.int v1)] [] h Q := by
  refine cd_aload_n (i := 0) (v := .ref 64) d_Desk_init_200 rfl rfl (cd_isr_ref _) ?_
  refine cd_newo (n := 3) (kc := (kc + 0)) (ks := (ks + 0)) d_Desk_init_201 nc_Desk_68 ?_
  show cd_W X m_Desk_init (kc + 0) (ks + 0) 204 [some (.ref 64), some (.int v1)] [.ref (cd_n h), .ref 64] (cd_new h (.inl 12)) Q
  refine cd_dup d_Desk_init_204 rfl ?_
  refine cd_callI (kc := (kc + 0)) (ks := (ks + 0)) (kc' := 0) (ks' := 0) (As := []) (S := [.ref (cd_n h), .ref 64]) d_Desk_init_205 ca_Desk_init_70 rfl (Nat.le_of_ble_eq_true rfl) (Nat.le_of_ble_eq_true rfl) ?_
  refine cd_W.mono (fun r1 h2 H => ?_) H
  obtain ⟨rfl, H⟩ := H
  show cd_W X m_Desk_init (kc + 0) (ks + 0) 208 [some (.ref 64), some (.int v1)] [.ref (cd_n h), .ref 64] h2 Q
  obtain ⟨c3, H⟩ := H
  refine cd_putR (o := (some (cd_n h))) d_Desk_init_208 fp_Desk_init_78 (Or.inl ⟨_, rfl⟩) c3 (by decide) ?_
  refine cd_W.budget (kc := kc) (ks := ks) (by omega) (by omega) ?_
  exact H

theorem d_Desk_init_211 : decode prog_1_method_1_code 211 = .ok (.aload_n 0, 1) := by decide +kernel
theorem d_Desk_init_212 : decode prog_1_method_1_code 212 = .ok (.new 68, 3) := by decide +kernel
theorem d_Desk_init_215 : decode prog_1_method_1_code 215 = .ok (.dup, 1) := by decide +kernel
theorem d_Desk_init_216 : decode prog_1_method_1_code 216 = .ok (.invokespecial 70, 3) := by decide +kernel
theorem d_Desk_init_219 : decode prog_1_method_1_code 219 = .ok (.putfield 81, 3) := by decide +kernel
theorem fp_Desk_init_81 {X : cd_E} : cd_FP X m_Desk_init 81 0 11 (.object "java/util/ArrayList") := cd_FP.of cl_0 rfl rfl (by decide) kw_1_153 (Or.inl rfl) (Or.inr ⟨rfl, rfl, rfl⟩)
theorem g_Desk_init_211 {X : cd_E} {kc ks : Nat} {h : cd_H} {Q : Option Value → cd_H → Prop} {v1 : Int32} (H : cd_W X m_AL_init_V 0 0 0 [some (.ref (cd_n h))] [] (cd_new h (.inl 12)) (fun r1 h2 => (r1 = none) ∧ ((cd_k h2 64 = some (.inl 0)) ∧ (cd_W X m_Desk_init kc ks 222 [some (.ref 64), some (.int v1)] [] (cd_sr h2 64 11 (some (cd_n h))) Q)))) : cd_W X m_Desk_init (kc + 1) (ks + 3) 211 [some (.ref 64), some (.int v1)] [] h Q := by
  refine cd_aload_n (i := 0) (v := .ref 64) d_Desk_init_211 rfl rfl (cd_isr_ref _) ?_
  refine cd_newo (n := 3) (kc := (kc + 0)) (ks := (ks + 0)) d_Desk_init_212 nc_Desk_68 ?_
  show cd_W X m_Desk_init (kc + 0) (ks + 0) 215 [some (.ref 64), some (.int v1)] [.ref (cd_n h), .ref 64] (cd_new h (.inl 12)) Q
  refine cd_dup d_Desk_init_215 rfl ?_
  refine cd_callI (kc := (kc + 0)) (ks := (ks + 0)) (kc' := 0) (ks' := 0) (As := []) (S := [.ref (cd_n h), .ref 64]) d_Desk_init_216 ca_Desk_init_70 rfl (Nat.le_of_ble_eq_true rfl) (Nat.le_of_ble_eq_true rfl) ?_
  refine cd_W.mono (fun r1 h2 H => ?_) H
  obtain ⟨rfl, H⟩ := H
  show cd_W X m_Desk_init (kc + 0) (ks + 0) 219 [some (.ref 64), some (.int v1)] [.ref (cd_n h), .ref 64] h2 Q
  obtain ⟨c3, H⟩ := H
  refine cd_putR (o := (some (cd_n h))) d_Desk_init_219 fp_Desk_init_81 (Or.inl ⟨_, rfl⟩) c3 (by decide) ?_
  refine cd_W.budget (kc := kc) (ks := ks) (by omega) (by omega) ?_
  exact H

theorem d_Desk_init_222 : decode prog_1_method_1_code 222 = .ok (.aload_n 0, 1) := by decide +kernel
theorem d_Desk_init_223 : decode prog_1_method_1_code 223 = .ok (.iconst 0, 1) := by decide +kernel
theorem d_Desk_init_224 : decode prog_1_method_1_code 224 = .ok (.putfield 84, 3) := by decide +kernel
theorem fp_Desk_init_84 {X : cd_E} : cd_FP X m_Desk_init 84 0 12 .int := cd_FP.of cl_0 rfl rfl (by decide) kw_1_154 (Or.inl rfl) (Or.inl rfl)
theorem d_Desk_init_227 : decode prog_1_method_1_code 227 = .ok (.aload_n 0, 1) := by decide +kernel
theorem d_Desk_init_228 : decode prog_1_method_1_code 228 = .ok (.iconst 0, 1) := by decide +kernel
theorem d_Desk_init_229 : decode prog_1_method_1_code 229 = .ok (.putfield 87, 3) := by decide +kernel
theorem fp_Desk_init_87 {X : cd_E} : cd_FP X m_Desk_init 87 0 13 .int := cd_FP.of cl_0 rfl rfl (by decide) kw_1_155 (Or.inl rfl) (Or.inl rfl)
theorem d_Desk_init_232 : decode prog_1_method_1_code 232 = .ok (.return_, 1) := by decide +kernel
theorem g_Desk_init_222 {X : cd_E} {kc ks : Nat} {h : cd_H} {Q : Option Value → cd_H → Prop} {v1 : Int32} (H : (cd_k h 64 = some (.inl 0)) ∧ (Q none (cd_si (cd_si h 64 12 0) 64 13 0))) : cd_W X m_Desk_init kc ks 222 [some (.ref 64), some (.int v1)] [] h Q := by
  refine cd_aload_n (i := 0) (v := .ref 64) d_Desk_init_222 rfl rfl (cd_isr_ref _) ?_
  show cd_W X m_Desk_init kc ks 223 [some (.ref 64), some (.int v1)] [.ref 64] h Q
  refine cd_iconst (v := 0) d_Desk_init_223 (by decide) ?_
  obtain ⟨c1, H⟩ := H
  refine cd_putI d_Desk_init_224 fp_Desk_init_84 (fun _ _ _ => rfl) c1 (by decide) rfl rfl ?_
  refine cd_aload_n (i := 0) (v := .ref 64) d_Desk_init_227 rfl rfl (cd_isr_ref _) ?_
  refine cd_iconst (v := 0) d_Desk_init_228 (by decide) ?_
  refine cd_putI d_Desk_init_229 fp_Desk_init_87 (fun _ _ _ => rfl) c1 (by decide) rfl rfl ?_
  exact cd_vret d_Desk_init_232 rfl H

abbrev m_Mod_init : cd_M := (⟨"CertificateDeskModel", "<init>", "(I)V"⟩, prog_14_method_1_code, 2, none, 2, 44)
theorem d_Mod_init_0 : decode prog_14_method_1_code 0 = .ok (.aload_n 0, 1) := by decide +kernel
theorem d_Mod_init_1 : decode prog_14_method_1_code 1 = .ok (.invokespecial 1, 3) := by decide +kernel
theorem kw_5_21 : (Jvm.Cond.methodLink "CertificateDeskModel" (1 : Nat) ({ cls := "java/lang/Object", name := "<init>", desc := "()V" } : Jvm.MethodName)) ∈ cd_tbl := tb_5 (List.mem_of_getElem? (i := 21) (by decide +kernel)) (by decide)
theorem d_Mod_init_4 : decode prog_14_method_1_code 4 = .ok (.aload_n 0, 1) := by decide +kernel
theorem d_Mod_init_5 : decode prog_14_method_1_code 5 = .ok (.bipush 96, 2) := by decide +kernel
theorem d_Mod_init_7 : decode prog_14_method_1_code 7 = .ok (.newarray .char, 2) := by decide +kernel
theorem d_Mod_init_9 : decode prog_14_method_1_code 9 = .ok (.putfield 7, 3) := by decide +kernel
theorem fp_Mod_init_7 {X : cd_E} : cd_FP X m_Mod_init 7 11 1 (.array .char) := cd_FP.of cl_11 rfl rfl (by decide) kw_5_28 (Or.inl rfl) (Or.inr ⟨rfl, rfl, rfl⟩)
theorem g_Mod_init {X : cd_E} {kc ks : Nat} {h : cd_H} {Q : Option Value → cd_H → Prop} {v1 : Int32} (H : (cd_k (cd_new h (.inr (1, 96))) 82 = some (.inl 11)) ∧ (cd_W X m_Mod_init kc ks 12 [some (.ref 82), some (.int v1)] [] (cd_sr (cd_new h (.inr (1, 96))) 82 1 (some (cd_n h))) Q)) : cd_W X m_Mod_init (kc + 1) (ks + 96) 0 [some (.ref 82), some (.int v1)] [] h Q := by
  refine cd_aload_n (i := 0) (v := .ref 82) d_Mod_init_0 rfl rfl (cd_isr_ref _) ?_
  show cd_W X m_Mod_init (kc + 1) (ks + 96) 1 [some (.ref 82), some (.int v1)] [.ref 82] h Q
  refine cd_objInit d_Mod_init_1 kw_5_21 kw_1_35 kw_1_36 (by decide) (by decide) (Nat.le_of_ble_eq_true rfl) ?_
  refine cd_aload_n (i := 0) (v := .ref 82) d_Mod_init_4 rfl rfl (cd_isr_ref _) ?_
  refine cd_bipush (v := 96) d_Mod_init_5 (by decide) ?_
  refine cd_newa (z := 1) (N := 96) (kc := (kc + 0)) (ks := (ks + 0)) d_Mod_init_7 rfl kw_1_79 rfl (by decide) (by decide) (by decide) ?_
  obtain ⟨c1, H⟩ := H
  refine cd_putR (o := (some (cd_n h))) d_Mod_init_9 fp_Mod_init_7 (Or.inr ⟨_, rfl⟩) c1 (by decide) ?_
  refine cd_W.budget (kc := kc) (ks := ks) (by omega) (by omega) ?_
  exact H

theorem d_Mod_init_12 : decode prog_14_method_1_code 12 = .ok (.aload_n 0, 1) := by decide +kernel
theorem d_Mod_init_13 : decode prog_14_method_1_code 13 = .ok (.iconst 4, 1) := by decide +kernel
theorem d_Mod_init_14 : decode prog_14_method_1_code 14 = .ok (.newarray .char, 2) := by decide +kernel
theorem d_Mod_init_16 : decode prog_14_method_1_code 16 = .ok (.putfield 13, 3) := by decide +kernel
theorem fp_Mod_init_13 {X : cd_E} : cd_FP X m_Mod_init 13 11 3 (.array .char) := cd_FP.of cl_11 rfl rfl (by decide) kw_5_30 (Or.inl rfl) (Or.inr ⟨rfl, rfl, rfl⟩)
theorem g_Mod_init_12 {X : cd_E} {kc ks : Nat} {h : cd_H} {Q : Option Value → cd_H → Prop} {v1 : Int32} (H : (cd_k (cd_new h (.inr (1, 4))) 82 = some (.inl 11)) ∧ (cd_W X m_Mod_init kc ks 19 [some (.ref 82), some (.int v1)] [] (cd_sr (cd_new h (.inr (1, 4))) 82 3 (some (cd_n h))) Q)) : cd_W X m_Mod_init (kc + 1) (ks + 4) 12 [some (.ref 82), some (.int v1)] [] h Q := by
  refine cd_aload_n (i := 0) (v := .ref 82) d_Mod_init_12 rfl rfl (cd_isr_ref _) ?_
  refine cd_iconst (v := 4) d_Mod_init_13 (by decide) ?_
  refine cd_newa (z := 1) (N := 4) (kc := (kc + 0)) (ks := (ks + 0)) d_Mod_init_14 rfl kw_1_79 rfl (by decide) (by decide) (by decide) ?_
  show cd_W X m_Mod_init (kc + 0) (ks + 0) 16 [some (.ref 82), some (.int v1)] [.ref (cd_n h), .ref 82] (cd_new h (.inr (1, 4))) Q
  obtain ⟨c1, H⟩ := H
  refine cd_putR (o := (some (cd_n h))) d_Mod_init_16 fp_Mod_init_13 (Or.inr ⟨_, rfl⟩) c1 (by decide) ?_
  refine cd_W.budget (kc := kc) (ks := ks) (by omega) (by omega) ?_
  exact H

theorem d_Mod_init_19 : decode prog_14_method_1_code 19 = .ok (.aload_n 0, 1) := by decide +kernel
theorem d_Mod_init_20 : decode prog_14_method_1_code 20 = .ok (.iconst 5, 1) := by decide +kernel
theorem d_Mod_init_21 : decode prog_14_method_1_code 21 = .ok (.newarray .int, 2) := by decide +kernel
theorem d_Mod_init_23 : decode prog_14_method_1_code 23 = .ok (.putfield 16, 3) := by decide +kernel
theorem fp_Mod_init_16 {X : cd_E} : cd_FP X m_Mod_init 16 11 4 (.array .int) := cd_FP.of cl_11 rfl rfl (by decide) kw_5_31 (Or.inl rfl) (Or.inr ⟨rfl, rfl, rfl⟩)
theorem g_Mod_init_19 {X : cd_E} {kc ks : Nat} {h : cd_H} {Q : Option Value → cd_H → Prop} {v1 : Int32} (H : (cd_k (cd_new h (.inr (0, 5))) 82 = some (.inl 11)) ∧ (cd_W X m_Mod_init kc ks 26 [some (.ref 82), some (.int v1)] [] (cd_sr (cd_new h (.inr (0, 5))) 82 4 (some (cd_n h))) Q)) : cd_W X m_Mod_init (kc + 1) (ks + 5) 19 [some (.ref 82), some (.int v1)] [] h Q := by
  refine cd_aload_n (i := 0) (v := .ref 82) d_Mod_init_19 rfl rfl (cd_isr_ref _) ?_
  refine cd_iconst (v := 5) d_Mod_init_20 (by decide) ?_
  refine cd_newa (z := 0) (N := 5) (kc := (kc + 0)) (ks := (ks + 0)) d_Mod_init_21 rfl kw_1_96 rfl (by decide) (by decide) (by decide) ?_
  show cd_W X m_Mod_init (kc + 0) (ks + 0) 23 [some (.ref 82), some (.int v1)] [.ref (cd_n h), .ref 82] (cd_new h (.inr (0, 5))) Q
  obtain ⟨c1, H⟩ := H
  refine cd_putR (o := (some (cd_n h))) d_Mod_init_23 fp_Mod_init_16 (Or.inr ⟨_, rfl⟩) c1 (by decide) ?_
  refine cd_W.budget (kc := kc) (ks := ks) (by omega) (by omega) ?_
  exact H

theorem d_Mod_init_26 : decode prog_14_method_1_code 26 = .ok (.aload_n 0, 1) := by decide +kernel
theorem d_Mod_init_27 : decode prog_14_method_1_code 27 = .ok (.iconst 5, 1) := by decide +kernel
theorem d_Mod_init_28 : decode prog_14_method_1_code 28 = .ok (.newarray .int, 2) := by decide +kernel
theorem d_Mod_init_30 : decode prog_14_method_1_code 30 = .ok (.putfield 20, 3) := by decide +kernel
theorem fp_Mod_init_20 {X : cd_E} : cd_FP X m_Mod_init 20 11 5 (.array .int) := cd_FP.of cl_11 rfl rfl (by decide) kw_5_32 (Or.inl rfl) (Or.inr ⟨rfl, rfl, rfl⟩)
theorem g_Mod_init_26 {X : cd_E} {kc ks : Nat} {h : cd_H} {Q : Option Value → cd_H → Prop} {v1 : Int32} (H : (cd_k (cd_new h (.inr (0, 5))) 82 = some (.inl 11)) ∧ (cd_W X m_Mod_init kc ks 33 [some (.ref 82), some (.int v1)] [] (cd_sr (cd_new h (.inr (0, 5))) 82 5 (some (cd_n h))) Q)) : cd_W X m_Mod_init (kc + 1) (ks + 5) 26 [some (.ref 82), some (.int v1)] [] h Q := by
  refine cd_aload_n (i := 0) (v := .ref 82) d_Mod_init_26 rfl rfl (cd_isr_ref _) ?_
  refine cd_iconst (v := 5) d_Mod_init_27 (by decide) ?_
  refine cd_newa (z := 0) (N := 5) (kc := (kc + 0)) (ks := (ks + 0)) d_Mod_init_28 rfl kw_1_96 rfl (by decide) (by decide) (by decide) ?_
  show cd_W X m_Mod_init (kc + 0) (ks + 0) 30 [some (.ref 82), some (.int v1)] [.ref (cd_n h), .ref 82] (cd_new h (.inr (0, 5))) Q
  obtain ⟨c1, H⟩ := H
  refine cd_putR (o := (some (cd_n h))) d_Mod_init_30 fp_Mod_init_20 (Or.inr ⟨_, rfl⟩) c1 (by decide) ?_
  refine cd_W.budget (kc := kc) (ks := ks) (by omega) (by omega) ?_
  exact H

theorem d_Mod_init_33 : decode prog_14_method_1_code 33 = .ok (.aload_n 0, 1) := by decide +kernel
theorem d_Mod_init_34 : decode prog_14_method_1_code 34 = .ok (.iconst 5, 1) := by decide +kernel
theorem d_Mod_init_35 : decode prog_14_method_1_code 35 = .ok (.newarray .int, 2) := by decide +kernel
theorem d_Mod_init_37 : decode prog_14_method_1_code 37 = .ok (.putfield 23, 3) := by decide +kernel
theorem fp_Mod_init_23 {X : cd_E} : cd_FP X m_Mod_init 23 11 6 (.array .int) := cd_FP.of cl_11 rfl rfl (by decide) kw_5_33 (Or.inl rfl) (Or.inr ⟨rfl, rfl, rfl⟩)
theorem g_Mod_init_33 {X : cd_E} {kc ks : Nat} {h : cd_H} {Q : Option Value → cd_H → Prop} {v1 : Int32} (H : (cd_k (cd_new h (.inr (0, 5))) 82 = some (.inl 11)) ∧ (cd_W X m_Mod_init kc ks 40 [some (.ref 82), some (.int v1)] [] (cd_sr (cd_new h (.inr (0, 5))) 82 6 (some (cd_n h))) Q)) : cd_W X m_Mod_init (kc + 1) (ks + 5) 33 [some (.ref 82), some (.int v1)] [] h Q := by
  refine cd_aload_n (i := 0) (v := .ref 82) d_Mod_init_33 rfl rfl (cd_isr_ref _) ?_
  refine cd_iconst (v := 5) d_Mod_init_34 (by decide) ?_
  refine cd_newa (z := 0) (N := 5) (kc := (kc + 0)) (ks := (ks + 0)) d_Mod_init_35 rfl kw_1_96 rfl (by decide) (by decide) (by decide) ?_
  show cd_W X m_Mod_init (kc + 0) (ks + 0) 37 [some (.ref 82), some (.int v1)] [.ref (cd_n h), .ref 82] (cd_new h (.inr (0, 5))) Q
  obtain ⟨c1, H⟩ := H
  refine cd_putR (o := (some (cd_n h))) d_Mod_init_37 fp_Mod_init_23 (Or.inr ⟨_, rfl⟩) c1 (by decide) ?_
  refine cd_W.budget (kc := kc) (ks := ks) (by omega) (by omega) ?_
  exact H

theorem d_Mod_init_40 : decode prog_14_method_1_code 40 = .ok (.aload_n 0, 1) := by decide +kernel
theorem d_Mod_init_41 : decode prog_14_method_1_code 41 = .ok (.bipush 20, 2) := by decide +kernel
theorem d_Mod_init_43 : decode prog_14_method_1_code 43 = .ok (.newarray .int, 2) := by decide +kernel
theorem d_Mod_init_45 : decode prog_14_method_1_code 45 = .ok (.putfield 26, 3) := by decide +kernel
theorem fp_Mod_init_26 {X : cd_E} : cd_FP X m_Mod_init 26 11 8 (.array .int) := cd_FP.of cl_11 rfl rfl (by decide) kw_5_35 (Or.inl rfl) (Or.inr ⟨rfl, rfl, rfl⟩)
theorem g_Mod_init_40 {X : cd_E} {kc ks : Nat} {h : cd_H} {Q : Option Value → cd_H → Prop} {v1 : Int32} (H : (cd_k (cd_new h (.inr (0, 20))) 82 = some (.inl 11)) ∧ (cd_W X m_Mod_init kc ks 48 [some (.ref 82), some (.int v1)] [] (cd_sr (cd_new h (.inr (0, 20))) 82 8 (some (cd_n h))) Q)) : cd_W X m_Mod_init (kc + 1) (ks + 20) 40 [some (.ref 82), some (.int v1)] [] h Q := by
  refine cd_aload_n (i := 0) (v := .ref 82) d_Mod_init_40 rfl rfl (cd_isr_ref _) ?_
  refine cd_bipush (v := 20) d_Mod_init_41 (by decide) ?_
  refine cd_newa (z := 0) (N := 20) (kc := (kc + 0)) (ks := (ks + 0)) d_Mod_init_43 rfl kw_1_96 rfl (by decide) (by decide) (by decide) ?_
  show cd_W X m_Mod_init (kc + 0) (ks + 0) 45 [some (.ref 82), some (.int v1)] [.ref (cd_n h), .ref 82] (cd_new h (.inr (0, 20))) Q
  obtain ⟨c1, H⟩ := H
  refine cd_putR (o := (some (cd_n h))) d_Mod_init_45 fp_Mod_init_26 (Or.inr ⟨_, rfl⟩) c1 (by decide) ?_
  refine cd_W.budget (kc := kc) (ks := ks) (by omega) (by omega) ?_
  exact H

theorem d_Mod_init_48 : decode prog_14_method_1_code 48 = .ok (.aload_n 0, 1) := by decide +kernel
theorem d_Mod_init_49 : decode prog_14_method_1_code 49 = .ok (.sipush 512, 3) := by decide +kernel
theorem d_Mod_init_52 : decode prog_14_method_1_code 52 = .ok (.newarray .boolean, 2) := by decide +kernel
theorem d_Mod_init_54 : decode prog_14_method_1_code 54 = .ok (.putfield 29, 3) := by decide +kernel
theorem fp_Mod_init_29 {X : cd_E} : cd_FP X m_Mod_init 29 11 12 (.array .boolean) := cd_FP.of cl_11 rfl rfl (by decide) kw_5_39 (Or.inl rfl) (Or.inr ⟨rfl, rfl, rfl⟩)
theorem g_Mod_init_48 {X : cd_E} {kc ks : Nat} {h : cd_H} {Q : Option Value → cd_H → Prop} {v1 : Int32} (H : (cd_k (cd_new h (.inr (2, 512))) 82 = some (.inl 11)) ∧ (cd_W X m_Mod_init kc ks 57 [some (.ref 82), some (.int v1)] [] (cd_sr (cd_new h (.inr (2, 512))) 82 12 (some (cd_n h))) Q)) : cd_W X m_Mod_init (kc + 1) (ks + 512) 48 [some (.ref 82), some (.int v1)] [] h Q := by
  refine cd_aload_n (i := 0) (v := .ref 82) d_Mod_init_48 rfl rfl (cd_isr_ref _) ?_
  refine cd_sipush (v := 512) d_Mod_init_49 (by decide) ?_
  refine cd_newa (z := 2) (N := 512) (kc := (kc + 0)) (ks := (ks + 0)) d_Mod_init_52 rfl kw_1_97 rfl (by decide) (by decide) (by decide) ?_
  show cd_W X m_Mod_init (kc + 0) (ks + 0) 54 [some (.ref 82), some (.int v1)] [.ref (cd_n h), .ref 82] (cd_new h (.inr (2, 512))) Q
  obtain ⟨c1, H⟩ := H
  refine cd_putR (o := (some (cd_n h))) d_Mod_init_54 fp_Mod_init_29 (Or.inr ⟨_, rfl⟩) c1 (by decide) ?_
  refine cd_W.budget (kc := kc) (ks := ks) (by omega) (by omega) ?_
  exact H

theorem d_Mod_init_57 : decode prog_14_method_1_code 57 = .ok (.aload_n 0, 1) := by decide +kernel
theorem d_Mod_init_58 : decode prog_14_method_1_code 58 = .ok (.iconst 4, 1) := by decide +kernel
theorem d_Mod_init_59 : decode prog_14_method_1_code 59 = .ok (.newarray .int, 2) := by decide +kernel
theorem d_Mod_init_61 : decode prog_14_method_1_code 61 = .ok (.putfield 33, 3) := by decide +kernel
theorem fp_Mod_init_33 {X : cd_E} : cd_FP X m_Mod_init 33 11 15 (.array .int) := cd_FP.of cl_11 rfl rfl (by decide) kw_5_42 (Or.inl rfl) (Or.inr ⟨rfl, rfl, rfl⟩)
theorem g_Mod_init_57 {X : cd_E} {kc ks : Nat} {h : cd_H} {Q : Option Value → cd_H → Prop} {v1 : Int32} (H : (cd_k (cd_new h (.inr (0, 4))) 82 = some (.inl 11)) ∧ (cd_W X m_Mod_init kc ks 64 [some (.ref 82), some (.int v1)] [] (cd_sr (cd_new h (.inr (0, 4))) 82 15 (some (cd_n h))) Q)) : cd_W X m_Mod_init (kc + 1) (ks + 4) 57 [some (.ref 82), some (.int v1)] [] h Q := by
  refine cd_aload_n (i := 0) (v := .ref 82) d_Mod_init_57 rfl rfl (cd_isr_ref _) ?_
  refine cd_iconst (v := 4) d_Mod_init_58 (by decide) ?_
  refine cd_newa (z := 0) (N := 4) (kc := (kc + 0)) (ks := (ks + 0)) d_Mod_init_59 rfl kw_1_96 rfl (by decide) (by decide) (by decide) ?_
  show cd_W X m_Mod_init (kc + 0) (ks + 0) 61 [some (.ref 82), some (.int v1)] [.ref (cd_n h), .ref 82] (cd_new h (.inr (0, 4))) Q
  obtain ⟨c1, H⟩ := H
  refine cd_putR (o := (some (cd_n h))) d_Mod_init_61 fp_Mod_init_33 (Or.inr ⟨_, rfl⟩) c1 (by decide) ?_
  refine cd_W.budget (kc := kc) (ks := ks) (by omega) (by omega) ?_
  exact H

theorem d_Mod_init_64 : decode prog_14_method_1_code 64 = .ok (.aload_n 0, 1) := by decide +kernel
theorem d_Mod_init_65 : decode prog_14_method_1_code 65 = .ok (.iconst 4, 1) := by decide +kernel
theorem d_Mod_init_66 : decode prog_14_method_1_code 66 = .ok (.newarray .boolean, 2) := by decide +kernel
theorem d_Mod_init_68 : decode prog_14_method_1_code 68 = .ok (.putfield 36, 3) := by decide +kernel
theorem fp_Mod_init_36 {X : cd_E} : cd_FP X m_Mod_init 36 11 16 (.array .boolean) := cd_FP.of cl_11 rfl rfl (by decide) kw_5_43 (Or.inl rfl) (Or.inr ⟨rfl, rfl, rfl⟩)
theorem g_Mod_init_64 {X : cd_E} {kc ks : Nat} {h : cd_H} {Q : Option Value → cd_H → Prop} {v1 : Int32} (H : (cd_k (cd_new h (.inr (2, 4))) 82 = some (.inl 11)) ∧ (cd_W X m_Mod_init kc ks 71 [some (.ref 82), some (.int v1)] [] (cd_sr (cd_new h (.inr (2, 4))) 82 16 (some (cd_n h))) Q)) : cd_W X m_Mod_init (kc + 1) (ks + 4) 64 [some (.ref 82), some (.int v1)] [] h Q := by
  refine cd_aload_n (i := 0) (v := .ref 82) d_Mod_init_64 rfl rfl (cd_isr_ref _) ?_
  refine cd_iconst (v := 4) d_Mod_init_65 (by decide) ?_
  refine cd_newa (z := 2) (N := 4) (kc := (kc + 0)) (ks := (ks + 0)) d_Mod_init_66 rfl kw_1_97 rfl (by decide) (by decide) (by decide) ?_
  show cd_W X m_Mod_init (kc + 0) (ks + 0) 68 [some (.ref 82), some (.int v1)] [.ref (cd_n h), .ref 82] (cd_new h (.inr (2, 4))) Q
  obtain ⟨c1, H⟩ := H
  refine cd_putR (o := (some (cd_n h))) d_Mod_init_68 fp_Mod_init_36 (Or.inr ⟨_, rfl⟩) c1 (by decide) ?_
  refine cd_W.budget (kc := kc) (ks := ks) (by omega) (by omega) ?_
  exact H

theorem d_Mod_init_71 : decode prog_14_method_1_code 71 = .ok (.aload_n 0, 1) := by decide +kernel
theorem d_Mod_init_72 : decode prog_14_method_1_code 72 = .ok (.bipush 12, 2) := by decide +kernel
theorem d_Mod_init_74 : decode prog_14_method_1_code 74 = .ok (.newarray .int, 2) := by decide +kernel
theorem d_Mod_init_76 : decode prog_14_method_1_code 76 = .ok (.putfield 39, 3) := by decide +kernel
theorem fp_Mod_init_39 {X : cd_E} : cd_FP X m_Mod_init 39 11 18 (.array .int) := cd_FP.of cl_11 rfl rfl (by decide) kw_5_45 (Or.inl rfl) (Or.inr ⟨rfl, rfl, rfl⟩)
theorem g_Mod_init_71 {X : cd_E} {kc ks : Nat} {h : cd_H} {Q : Option Value → cd_H → Prop} {v1 : Int32} (H : (cd_k (cd_new h (.inr (0, 12))) 82 = some (.inl 11)) ∧ (cd_W X m_Mod_init kc ks 79 [some (.ref 82), some (.int v1)] [] (cd_sr (cd_new h (.inr (0, 12))) 82 18 (some (cd_n h))) Q)) : cd_W X m_Mod_init (kc + 1) (ks + 12) 71 [some (.ref 82), some (.int v1)] [] h Q := by
  refine cd_aload_n (i := 0) (v := .ref 82) d_Mod_init_71 rfl rfl (cd_isr_ref _) ?_
  refine cd_bipush (v := 12) d_Mod_init_72 (by decide) ?_
  refine cd_newa (z := 0) (N := 12) (kc := (kc + 0)) (ks := (ks + 0)) d_Mod_init_74 rfl kw_1_96 rfl (by decide) (by decide) (by decide) ?_
  show cd_W X m_Mod_init (kc + 0) (ks + 0) 76 [some (.ref 82), some (.int v1)] [.ref (cd_n h), .ref 82] (cd_new h (.inr (0, 12))) Q
  obtain ⟨c1, H⟩ := H
  refine cd_putR (o := (some (cd_n h))) d_Mod_init_76 fp_Mod_init_39 (Or.inr ⟨_, rfl⟩) c1 (by decide) ?_
  refine cd_W.budget (kc := kc) (ks := ks) (by omega) (by omega) ?_
  exact H

theorem d_Mod_init_79 : decode prog_14_method_1_code 79 = .ok (.aload_n 0, 1) := by decide +kernel
theorem d_Mod_init_80 : decode prog_14_method_1_code 80 = .ok (.bipush 12, 2) := by decide +kernel
theorem d_Mod_init_82 : decode prog_14_method_1_code 82 = .ok (.newarray .int, 2) := by decide +kernel
theorem d_Mod_init_84 : decode prog_14_method_1_code 84 = .ok (.putfield 42, 3) := by decide +kernel
theorem fp_Mod_init_42 {X : cd_E} : cd_FP X m_Mod_init 42 11 19 (.array .int) := cd_FP.of cl_11 rfl rfl (by decide) kw_5_46 (Or.inl rfl) (Or.inr ⟨rfl, rfl, rfl⟩)
theorem g_Mod_init_79 {X : cd_E} {kc ks : Nat} {h : cd_H} {Q : Option Value → cd_H → Prop} {v1 : Int32} (H : (cd_k (cd_new h (.inr (0, 12))) 82 = some (.inl 11)) ∧ (cd_W X m_Mod_init kc ks 87 [some (.ref 82), some (.int v1)] [] (cd_sr (cd_new h (.inr (0, 12))) 82 19 (some (cd_n h))) Q)) : cd_W X m_Mod_init (kc + 1) (ks + 12) 79 [some (.ref 82), some (.int v1)] [] h Q := by
  refine cd_aload_n (i := 0) (v := .ref 82) d_Mod_init_79 rfl rfl (cd_isr_ref _) ?_
  refine cd_bipush (v := 12) d_Mod_init_80 (by decide) ?_
  refine cd_newa (z := 0) (N := 12) (kc := (kc + 0)) (ks := (ks + 0)) d_Mod_init_82 rfl kw_1_96 rfl (by decide) (by decide) (by decide) ?_
  show cd_W X m_Mod_init (kc + 0) (ks + 0) 84 [some (.ref 82), some (.int v1)] [.ref (cd_n h), .ref 82] (cd_new h (.inr (0, 12))) Q
  obtain ⟨c1, H⟩ := H
  refine cd_putR (o := (some (cd_n h))) d_Mod_init_84 fp_Mod_init_42 (Or.inr ⟨_, rfl⟩) c1 (by decide) ?_
  refine cd_W.budget (kc := kc) (ks := ks) (by omega) (by omega) ?_
  exact H

theorem d_Mod_init_87 : decode prog_14_method_1_code 87 = .ok (.aload_n 0, 1) := by decide +kernel
theorem d_Mod_init_88 : decode prog_14_method_1_code 88 = .ok (.bipush 12, 2) := by decide +kernel
theorem d_Mod_init_90 : decode prog_14_method_1_code 90 = .ok (.newarray .int, 2) := by decide +kernel
theorem d_Mod_init_92 : decode prog_14_method_1_code 92 = .ok (.putfield 45, 3) := by decide +kernel
theorem fp_Mod_init_45 {X : cd_E} : cd_FP X m_Mod_init 45 11 20 (.array .int) := cd_FP.of cl_11 rfl rfl (by decide) kw_5_47 (Or.inl rfl) (Or.inr ⟨rfl, rfl, rfl⟩)
theorem g_Mod_init_87 {X : cd_E} {kc ks : Nat} {h : cd_H} {Q : Option Value → cd_H → Prop} {v1 : Int32} (H : (cd_k (cd_new h (.inr (0, 12))) 82 = some (.inl 11)) ∧ (cd_W X m_Mod_init kc ks 95 [some (.ref 82), some (.int v1)] [] (cd_sr (cd_new h (.inr (0, 12))) 82 20 (some (cd_n h))) Q)) : cd_W X m_Mod_init (kc + 1) (ks + 12) 87 [some (.ref 82), some (.int v1)] [] h Q := by
  refine cd_aload_n (i := 0) (v := .ref 82) d_Mod_init_87 rfl rfl (cd_isr_ref _) ?_
  refine cd_bipush (v := 12) d_Mod_init_88 (by decide) ?_
  refine cd_newa (z := 0) (N := 12) (kc := (kc + 0)) (ks := (ks + 0)) d_Mod_init_90 rfl kw_1_96 rfl (by decide) (by decide) (by decide) ?_
  show cd_W X m_Mod_init (kc + 0) (ks + 0) 92 [some (.ref 82), some (.int v1)] [.ref (cd_n h), .ref 82] (cd_new h (.inr (0, 12))) Q
  obtain ⟨c1, H⟩ := H
  refine cd_putR (o := (some (cd_n h))) d_Mod_init_92 fp_Mod_init_45 (Or.inr ⟨_, rfl⟩) c1 (by decide) ?_
  refine cd_W.budget (kc := kc) (ks := ks) (by omega) (by omega) ?_
  exact H

theorem d_Mod_init_95 : decode prog_14_method_1_code 95 = .ok (.aload_n 0, 1) := by decide +kernel
theorem d_Mod_init_96 : decode prog_14_method_1_code 96 = .ok (.bipush 36, 2) := by decide +kernel
theorem d_Mod_init_98 : decode prog_14_method_1_code 98 = .ok (.newarray .int, 2) := by decide +kernel
theorem d_Mod_init_100 : decode prog_14_method_1_code 100 = .ok (.putfield 48, 3) := by decide +kernel
theorem fp_Mod_init_48 {X : cd_E} : cd_FP X m_Mod_init 48 11 21 (.array .int) := cd_FP.of cl_11 rfl rfl (by decide) kw_5_48 (Or.inl rfl) (Or.inr ⟨rfl, rfl, rfl⟩)
theorem g_Mod_init_95 {X : cd_E} {kc ks : Nat} {h : cd_H} {Q : Option Value → cd_H → Prop} {v1 : Int32} (H : (cd_k (cd_new h (.inr (0, 36))) 82 = some (.inl 11)) ∧ (cd_W X m_Mod_init kc ks 103 [some (.ref 82), some (.int v1)] [] (cd_sr (cd_new h (.inr (0, 36))) 82 21 (some (cd_n h))) Q)) : cd_W X m_Mod_init (kc + 1) (ks + 36) 95 [some (.ref 82), some (.int v1)] [] h Q := by
  refine cd_aload_n (i := 0) (v := .ref 82) d_Mod_init_95 rfl rfl (cd_isr_ref _) ?_
  refine cd_bipush (v := 36) d_Mod_init_96 (by decide) ?_
  refine cd_newa (z := 0) (N := 36) (kc := (kc + 0)) (ks := (ks + 0)) d_Mod_init_98 rfl kw_1_96 rfl (by decide) (by decide) (by decide) ?_
  show cd_W X m_Mod_init (kc + 0) (ks + 0) 100 [some (.ref 82), some (.int v1)] [.ref (cd_n h), .ref 82] (cd_new h (.inr (0, 36))) Q
  obtain ⟨c1, H⟩ := H
  refine cd_putR (o := (some (cd_n h))) d_Mod_init_100 fp_Mod_init_48 (Or.inr ⟨_, rfl⟩) c1 (by decide) ?_
  refine cd_W.budget (kc := kc) (ks := ks) (by omega) (by omega) ?_
  exact H

theorem d_Mod_init_103 : decode prog_14_method_1_code 103 = .ok (.aload_n 0, 1) := by decide +kernel
theorem d_Mod_init_104 : decode prog_14_method_1_code 104 = .ok (.bipush 12, 2) := by decide +kernel
theorem d_Mod_init_106 : decode prog_14_method_1_code 106 = .ok (.newarray .int, 2) := by decide +kernel
theorem d_Mod_init_108 : decode prog_14_method_1_code 108 = .ok (.putfield 51, 3) := by decide +kernel
theorem fp_Mod_init_51 {X : cd_E} : cd_FP X m_Mod_init 51 11 22 (.array .int) := cd_FP.of cl_11 rfl rfl (by decide) kw_5_49 (Or.inl rfl) (Or.inr ⟨rfl, rfl, rfl⟩)
theorem g_Mod_init_103 {X : cd_E} {kc ks : Nat} {h : cd_H} {Q : Option Value → cd_H → Prop} {v1 : Int32} (H : (cd_k (cd_new h (.inr (0, 12))) 82 = some (.inl 11)) ∧ (cd_W X m_Mod_init kc ks 111 [some (.ref 82), some (.int v1)] [] (cd_sr (cd_new h (.inr (0, 12))) 82 22 (some (cd_n h))) Q)) : cd_W X m_Mod_init (kc + 1) (ks + 12) 103 [some (.ref 82), some (.int v1)] [] h Q := by
  refine cd_aload_n (i := 0) (v := .ref 82) d_Mod_init_103 rfl rfl (cd_isr_ref _) ?_
  refine cd_bipush (v := 12) d_Mod_init_104 (by decide) ?_
  refine cd_newa (z := 0) (N := 12) (kc := (kc + 0)) (ks := (ks + 0)) d_Mod_init_106 rfl kw_1_96 rfl (by decide) (by decide) (by decide) ?_
  show cd_W X m_Mod_init (kc + 0) (ks + 0) 108 [some (.ref 82), some (.int v1)] [.ref (cd_n h), .ref 82] (cd_new h (.inr (0, 12))) Q
  obtain ⟨c1, H⟩ := H
  refine cd_putR (o := (some (cd_n h))) d_Mod_init_108 fp_Mod_init_51 (Or.inr ⟨_, rfl⟩) c1 (by decide) ?_
  refine cd_W.budget (kc := kc) (ks := ks) (by omega) (by omega) ?_
  exact H

theorem d_Mod_init_111 : decode prog_14_method_1_code 111 = .ok (.aload_n 0, 1) := by decide +kernel
theorem d_Mod_init_112 : decode prog_14_method_1_code 112 = .ok (.bipush 24, 2) := by decide +kernel
theorem d_Mod_init_114 : decode prog_14_method_1_code 114 = .ok (.newarray .int, 2) := by decide +kernel
theorem d_Mod_init_116 : decode prog_14_method_1_code 116 = .ok (.putfield 54, 3) := by decide +kernel
theorem fp_Mod_init_54 {X : cd_E} : cd_FP X m_Mod_init 54 11 24 (.array .int) := cd_FP.of cl_11 rfl rfl (by decide) kw_5_51 (Or.inl rfl) (Or.inr ⟨rfl, rfl, rfl⟩)
theorem g_Mod_init_111 {X : cd_E} {kc ks : Nat} {h : cd_H} {Q : Option Value → cd_H → Prop} {v1 : Int32} (H : (cd_k (cd_new h (.inr (0, 24))) 82 = some (.inl 11)) ∧ (cd_W X m_Mod_init kc ks 119 [some (.ref 82), some (.int v1)] [] (cd_sr (cd_new h (.inr (0, 24))) 82 24 (some (cd_n h))) Q)) : cd_W X m_Mod_init (kc + 1) (ks + 24) 111 [some (.ref 82), some (.int v1)] [] h Q := by
  refine cd_aload_n (i := 0) (v := .ref 82) d_Mod_init_111 rfl rfl (cd_isr_ref _) ?_
  refine cd_bipush (v := 24) d_Mod_init_112 (by decide) ?_
  refine cd_newa (z := 0) (N := 24) (kc := (kc + 0)) (ks := (ks + 0)) d_Mod_init_114 rfl kw_1_96 rfl (by decide) (by decide) (by decide) ?_
  show cd_W X m_Mod_init (kc + 0) (ks + 0) 116 [some (.ref 82), some (.int v1)] [.ref (cd_n h), .ref 82] (cd_new h (.inr (0, 24))) Q
  obtain ⟨c1, H⟩ := H
  refine cd_putR (o := (some (cd_n h))) d_Mod_init_116 fp_Mod_init_54 (Or.inr ⟨_, rfl⟩) c1 (by decide) ?_
  refine cd_W.budget (kc := kc) (ks := ks) (by omega) (by omega) ?_
  exact H

theorem d_Mod_init_119 : decode prog_14_method_1_code 119 = .ok (.aload_n 0, 1) := by decide +kernel
theorem d_Mod_init_120 : decode prog_14_method_1_code 120 = .ok (.sipush 288, 3) := by decide +kernel
theorem d_Mod_init_123 : decode prog_14_method_1_code 123 = .ok (.newarray .char, 2) := by decide +kernel
theorem d_Mod_init_125 : decode prog_14_method_1_code 125 = .ok (.putfield 57, 3) := by decide +kernel
theorem fp_Mod_init_57 {X : cd_E} : cd_FP X m_Mod_init 57 11 25 (.array .char) := cd_FP.of cl_11 rfl rfl (by decide) kw_5_52 (Or.inl rfl) (Or.inr ⟨rfl, rfl, rfl⟩)
theorem g_Mod_init_119 {X : cd_E} {kc ks : Nat} {h : cd_H} {Q : Option Value → cd_H → Prop} {v1 : Int32} (H : (cd_k (cd_new h (.inr (1, 288))) 82 = some (.inl 11)) ∧ (cd_W X m_Mod_init kc ks 128 [some (.ref 82), some (.int v1)] [] (cd_sr (cd_new h (.inr (1, 288))) 82 25 (some (cd_n h))) Q)) : cd_W X m_Mod_init (kc + 1) (ks + 288) 119 [some (.ref 82), some (.int v1)] [] h Q := by
  refine cd_aload_n (i := 0) (v := .ref 82) d_Mod_init_119 rfl rfl (cd_isr_ref _) ?_
  refine cd_sipush (v := 288) d_Mod_init_120 (by decide) ?_
  refine cd_newa (z := 1) (N := 288) (kc := (kc + 0)) (ks := (ks + 0)) d_Mod_init_123 rfl kw_1_79 rfl (by decide) (by decide) (by decide) ?_
  show cd_W X m_Mod_init (kc + 0) (ks + 0) 125 [some (.ref 82), some (.int v1)] [.ref (cd_n h), .ref 82] (cd_new h (.inr (1, 288))) Q
  obtain ⟨c1, H⟩ := H
  refine cd_putR (o := (some (cd_n h))) d_Mod_init_125 fp_Mod_init_57 (Or.inr ⟨_, rfl⟩) c1 (by decide) ?_
  refine cd_W.budget (kc := kc) (ks := ks) (by omega) (by omega) ?_
  exact H

theorem d_Mod_init_128 : decode prog_14_method_1_code 128 = .ok (.aload_n 0, 1) := by decide +kernel
theorem d_Mod_init_129 : decode prog_14_method_1_code 129 = .ok (.bipush 24, 2) := by decide +kernel
theorem d_Mod_init_131 : decode prog_14_method_1_code 131 = .ok (.newarray .int, 2) := by decide +kernel
theorem d_Mod_init_133 : decode prog_14_method_1_code 133 = .ok (.putfield 60, 3) := by decide +kernel
theorem fp_Mod_init_60 {X : cd_E} : cd_FP X m_Mod_init 60 11 26 (.array .int) := cd_FP.of cl_11 rfl rfl (by decide) kw_5_53 (Or.inl rfl) (Or.inr ⟨rfl, rfl, rfl⟩)
theorem g_Mod_init_128 {X : cd_E} {kc ks : Nat} {h : cd_H} {Q : Option Value → cd_H → Prop} {v1 : Int32} (H : (cd_k (cd_new h (.inr (0, 24))) 82 = some (.inl 11)) ∧ (cd_W X m_Mod_init kc ks 136 [some (.ref 82), some (.int v1)] [] (cd_sr (cd_new h (.inr (0, 24))) 82 26 (some (cd_n h))) Q)) : cd_W X m_Mod_init (kc + 1) (ks + 24) 128 [some (.ref 82), some (.int v1)] [] h Q := by
  refine cd_aload_n (i := 0) (v := .ref 82) d_Mod_init_128 rfl rfl (cd_isr_ref _) ?_
  refine cd_bipush (v := 24) d_Mod_init_129 (by decide) ?_
  refine cd_newa (z := 0) (N := 24) (kc := (kc + 0)) (ks := (ks + 0)) d_Mod_init_131 rfl kw_1_96 rfl (by decide) (by decide) (by decide) ?_
  show cd_W X m_Mod_init (kc + 0) (ks + 0) 133 [some (.ref 82), some (.int v1)] [.ref (cd_n h), .ref 82] (cd_new h (.inr (0, 24))) Q
  obtain ⟨c1, H⟩ := H
  refine cd_putR (o := (some (cd_n h))) d_Mod_init_133 fp_Mod_init_60 (Or.inr ⟨_, rfl⟩) c1 (by decide) ?_
  refine cd_W.budget (kc := kc) (ks := ks) (by omega) (by omega) ?_
  exact H

theorem d_Mod_init_136 : decode prog_14_method_1_code 136 = .ok (.aload_n 0, 1) := by decide +kernel
theorem d_Mod_init_137 : decode prog_14_method_1_code 137 = .ok (.bipush 24, 2) := by decide +kernel
theorem d_Mod_init_139 : decode prog_14_method_1_code 139 = .ok (.newarray .int, 2) := by decide +kernel
theorem d_Mod_init_141 : decode prog_14_method_1_code 141 = .ok (.putfield 63, 3) := by decide +kernel
theorem fp_Mod_init_63 {X : cd_E} : cd_FP X m_Mod_init 63 11 27 (.array .int) := cd_FP.of cl_11 rfl rfl (by decide) kw_5_54 (Or.inl rfl) (Or.inr ⟨rfl, rfl, rfl⟩)
theorem g_Mod_init_136 {X : cd_E} {kc ks : Nat} {h : cd_H} {Q : Option Value → cd_H → Prop} {v1 : Int32} (H : (cd_k (cd_new h (.inr (0, 24))) 82 = some (.inl 11)) ∧ (cd_W X m_Mod_init kc ks 144 [some (.ref 82), some (.int v1)] [] (cd_sr (cd_new h (.inr (0, 24))) 82 27 (some (cd_n h))) Q)) : cd_W X m_Mod_init (kc + 1) (ks + 24) 136 [some (.ref 82), some (.int v1)] [] h Q := by
  refine cd_aload_n (i := 0) (v := .ref 82) d_Mod_init_136 rfl rfl (cd_isr_ref _) ?_
  refine cd_bipush (v := 24) d_Mod_init_137 (by decide) ?_
  refine cd_newa (z := 0) (N := 24) (kc := (kc + 0)) (ks := (ks + 0)) d_Mod_init_139 rfl kw_1_96 rfl (by decide) (by decide) (by decide) ?_
  show cd_W X m_Mod_init (kc + 0) (ks + 0) 141 [some (.ref 82), some (.int v1)] [.ref (cd_n h), .ref 82] (cd_new h (.inr (0, 24))) Q
  obtain ⟨c1, H⟩ := H
  refine cd_putR (o := (some (cd_n h))) d_Mod_init_141 fp_Mod_init_63 (Or.inr ⟨_, rfl⟩) c1 (by decide) ?_
  refine cd_W.budget (kc := kc) (ks := ks) (by omega) (by omega) ?_
  exact H

theorem d_Mod_init_144 : decode prog_14_method_1_code 144 = .ok (.aload_n 0, 1) := by decide +kernel
theorem d_Mod_init_145 : decode prog_14_method_1_code 145 = .ok (.bipush 24, 2) := by decide +kernel
theorem d_Mod_init_147 : decode prog_14_method_1_code 147 = .ok (.newarray .int, 2) := by decide +kernel
theorem d_Mod_init_149 : decode prog_14_method_1_code 149 = .ok (.putfield 66, 3) := by decide +kernel
theorem fp_Mod_init_66 {X : cd_E} : cd_FP X m_Mod_init 66 11 28 (.array .int) := cd_FP.of cl_11 rfl rfl (by decide) kw_5_55 (Or.inl rfl) (Or.inr ⟨rfl, rfl, rfl⟩)
theorem g_Mod_init_144 {X : cd_E} {kc ks : Nat} {h : cd_H} {Q : Option Value → cd_H → Prop} {v1 : Int32} (H : (cd_k (cd_new h (.inr (0, 24))) 82 = some (.inl 11)) ∧ (cd_W X m_Mod_init kc ks 152 [some (.ref 82), some (.int v1)] [] (cd_sr (cd_new h (.inr (0, 24))) 82 28 (some (cd_n h))) Q)) : cd_W X m_Mod_init (kc + 1) (ks + 24) 144 [some (.ref 82), some (.int v1)] [] h Q := by
  refine cd_aload_n (i := 0) (v := .ref 82) d_Mod_init_144 rfl rfl (cd_isr_ref _) ?_
  refine cd_bipush (v := 24) d_Mod_init_145 (by decide) ?_
  refine cd_newa (z := 0) (N := 24) (kc := (kc + 0)) (ks := (ks + 0)) d_Mod_init_147 rfl kw_1_96 rfl (by decide) (by decide) (by decide) ?_
  show cd_W X m_Mod_init (kc + 0) (ks + 0) 149 [some (.ref 82), some (.int v1)] [.ref (cd_n h), .ref 82] (cd_new h (.inr (0, 24))) Q
  obtain ⟨c1, H⟩ := H
  refine cd_putR (o := (some (cd_n h))) d_Mod_init_149 fp_Mod_init_66 (Or.inr ⟨_, rfl⟩) c1 (by decide) ?_
  refine cd_W.budget (kc := kc) (ks := ks) (by omega) (by omega) ?_
  exact H

theorem d_Mod_init_152 : decode prog_14_method_1_code 152 = .ok (.aload_n 0, 1) := by decide +kernel
theorem d_Mod_init_153 : decode prog_14_method_1_code 153 = .ok (.bipush 24, 2) := by decide +kernel
theorem d_Mod_init_155 : decode prog_14_method_1_code 155 = .ok (.newarray .int, 2) := by decide +kernel
theorem d_Mod_init_157 : decode prog_14_method_1_code 157 = .ok (.putfield 69, 3) := by decide +kernel
theorem fp_Mod_init_69 {X : cd_E} : cd_FP X m_Mod_init 69 11 29 (.array .int) := cd_FP.of cl_11 rfl rfl (by decide) kw_5_56 (Or.inl rfl) (Or.inr ⟨rfl, rfl, rfl⟩)
theorem g_Mod_init_152 {X : cd_E} {kc ks : Nat} {h : cd_H} {Q : Option Value → cd_H → Prop} {v1 : Int32} (H : (cd_k (cd_new h (.inr (0, 24))) 82 = some (.inl 11)) ∧ (cd_W X m_Mod_init kc ks 160 [some (.ref 82), some (.int v1)] [] (cd_sr (cd_new h (.inr (0, 24))) 82 29 (some (cd_n h))) Q)) : cd_W X m_Mod_init (kc + 1) (ks + 24) 152 [some (.ref 82), some (.int v1)] [] h Q := by
  refine cd_aload_n (i := 0) (v := .ref 82) d_Mod_init_152 rfl rfl (cd_isr_ref _) ?_
  refine cd_bipush (v := 24) d_Mod_init_153 (by decide) ?_
  refine cd_newa (z := 0) (N := 24) (kc := (kc + 0)) (ks := (ks + 0)) d_Mod_init_155 rfl kw_1_96 rfl (by decide) (by decide) (by decide) ?_
  show cd_W X m_Mod_init (kc + 0) (ks + 0) 157 [some (.ref 82), some (.int v1)] [.ref (cd_n h), .ref 82] (cd_new h (.inr (0, 24))) Q
  obtain ⟨c1, H⟩ := H
  refine cd_putR (o := (some (cd_n h))) d_Mod_init_157 fp_Mod_init_69 (Or.inr ⟨_, rfl⟩) c1 (by decide) ?_
  refine cd_W.budget (kc := kc) (ks := ks) (by omega) (by omega) ?_
  exact H

theorem d_Mod_init_160 : decode prog_14_method_1_code 160 = .ok (.aload_n 0, 1) := by decide +kernel
theorem d_Mod_init_161 : decode prog_14_method_1_code 161 = .ok (.bipush 24, 2) := by decide +kernel
theorem d_Mod_init_163 : decode prog_14_method_1_code 163 = .ok (.newarray .int, 2) := by decide +kernel
theorem d_Mod_init_165 : decode prog_14_method_1_code 165 = .ok (.putfield 72, 3) := by decide +kernel
theorem fp_Mod_init_72 {X : cd_E} : cd_FP X m_Mod_init 72 11 30 (.array .int) := cd_FP.of cl_11 rfl rfl (by decide) kw_5_57 (Or.inl rfl) (Or.inr ⟨rfl, rfl, rfl⟩)
theorem g_Mod_init_160 {X : cd_E} {kc ks : Nat} {h : cd_H} {Q : Option Value → cd_H → Prop} {v1 : Int32} (H : (cd_k (cd_new h (.inr (0, 24))) 82 = some (.inl 11)) ∧ (cd_W X m_Mod_init kc ks 168 [some (.ref 82), some (.int v1)] [] (cd_sr (cd_new h (.inr (0, 24))) 82 30 (some (cd_n h))) Q)) : cd_W X m_Mod_init (kc + 1) (ks + 24) 160 [some (.ref 82), some (.int v1)] [] h Q := by
  refine cd_aload_n (i := 0) (v := .ref 82) d_Mod_init_160 rfl rfl (cd_isr_ref _) ?_
  refine cd_bipush (v := 24) d_Mod_init_161 (by decide) ?_
  refine cd_newa (z := 0) (N := 24) (kc := (kc + 0)) (ks := (ks + 0)) d_Mod_init_163 rfl kw_1_96 rfl (by decide) (by decide) (by decide) ?_
  show cd_W X m_Mod_init (kc + 0) (ks + 0) 165 [some (.ref 82), some (.int v1)] [.ref (cd_n h), .ref 82] (cd_new h (.inr (0, 24))) Q
  obtain ⟨c1, H⟩ := H
  refine cd_putR (o := (some (cd_n h))) d_Mod_init_165 fp_Mod_init_72 (Or.inr ⟨_, rfl⟩) c1 (by decide) ?_
  refine cd_W.budget (kc := kc) (ks := ks) (by omega) (by omega) ?_
  exact H

theorem d_Mod_init_168 : decode prog_14_method_1_code 168 = .ok (.aload_n 0, 1) := by decide +kernel
theorem d_Mod_init_169 : decode prog_14_method_1_code 169 = .ok (.bipush 12, 2) := by decide +kernel
theorem d_Mod_init_171 : decode prog_14_method_1_code 171 = .ok (.newarray .int, 2) := by decide +kernel
theorem d_Mod_init_173 : decode prog_14_method_1_code 173 = .ok (.putfield 75, 3) := by decide +kernel
theorem fp_Mod_init_75 {X : cd_E} : cd_FP X m_Mod_init 75 11 32 (.array .int) := cd_FP.of cl_11 rfl rfl (by decide) kw_5_59 (Or.inl rfl) (Or.inr ⟨rfl, rfl, rfl⟩)
theorem g_Mod_init_168 {X : cd_E} {kc ks : Nat} {h : cd_H} {Q : Option Value → cd_H → Prop} {v1 : Int32} (H : (cd_k (cd_new h (.inr (0, 12))) 82 = some (.inl 11)) ∧ (cd_W X m_Mod_init kc ks 176 [some (.ref 82), some (.int v1)] [] (cd_sr (cd_new h (.inr (0, 12))) 82 32 (some (cd_n h))) Q)) : cd_W X m_Mod_init (kc + 1) (ks + 12) 168 [some (.ref 82), some (.int v1)] [] h Q := by
  refine cd_aload_n (i := 0) (v := .ref 82) d_Mod_init_168 rfl rfl (cd_isr_ref _) ?_
  refine cd_bipush (v := 12) d_Mod_init_169 (by decide) ?_
  refine cd_newa (z := 0) (N := 12) (kc := (kc + 0)) (ks := (ks + 0)) d_Mod_init_171 rfl kw_1_96 rfl (by decide) (by decide) (by decide) ?_
  show cd_W X m_Mod_init (kc + 0) (ks + 0) 173 [some (.ref 82), some (.int v1)] [.ref (cd_n h), .ref 82] (cd_new h (.inr (0, 12))) Q
  obtain ⟨c1, H⟩ := H
  refine cd_putR (o := (some (cd_n h))) d_Mod_init_173 fp_Mod_init_75 (Or.inr ⟨_, rfl⟩) c1 (by decide) ?_
  refine cd_W.budget (kc := kc) (ks := ks) (by omega) (by omega) ?_
  exact H

theorem d_Mod_init_176 : decode prog_14_method_1_code 176 = .ok (.aload_n 0, 1) := by decide +kernel
theorem d_Mod_init_177 : decode prog_14_method_1_code 177 = .ok (.bipush 12, 2) := by decide +kernel
theorem d_Mod_init_179 : decode prog_14_method_1_code 179 = .ok (.newarray .int, 2) := by decide +kernel
theorem d_Mod_init_181 : decode prog_14_method_1_code 181 = .ok (.putfield 78, 3) := by decide +kernel
theorem fp_Mod_init_78 {X : cd_E} : cd_FP X m_Mod_init 78 11 33 (.array .int) := cd_FP.of cl_11 rfl rfl (by decide) kw_5_60 (Or.inl rfl) (Or.inr ⟨rfl, rfl, rfl⟩)
theorem g_Mod_init_176 {X : cd_E} {kc ks : Nat} {h : cd_H} {Q : Option Value → cd_H → Prop} {v1 : Int32} (H : (cd_k (cd_new h (.inr (0, 12))) 82 = some (.inl 11)) ∧ (cd_W X m_Mod_init kc ks 184 [some (.ref 82), some (.int v1)] [] (cd_sr (cd_new h (.inr (0, 12))) 82 33 (some (cd_n h))) Q)) : cd_W X m_Mod_init (kc + 1) (ks + 12) 176 [some (.ref 82), some (.int v1)] [] h Q := by
  refine cd_aload_n (i := 0) (v := .ref 82) d_Mod_init_176 rfl rfl (cd_isr_ref _) ?_
  refine cd_bipush (v := 12) d_Mod_init_177 (by decide) ?_
  refine cd_newa (z := 0) (N := 12) (kc := (kc + 0)) (ks := (ks + 0)) d_Mod_init_179 rfl kw_1_96 rfl (by decide) (by decide) (by decide) ?_
  show cd_W X m_Mod_init (kc + 0) (ks + 0) 181 [some (.ref 82), some (.int v1)] [.ref (cd_n h), .ref 82] (cd_new h (.inr (0, 12))) Q
  obtain ⟨c1, H⟩ := H
  refine cd_putR (o := (some (cd_n h))) d_Mod_init_181 fp_Mod_init_78 (Or.inr ⟨_, rfl⟩) c1 (by decide) ?_
  refine cd_W.budget (kc := kc) (ks := ks) (by omega) (by omega) ?_
  exact H

theorem d_Mod_init_184 : decode prog_14_method_1_code 184 = .ok (.aload_n 0, 1) := by decide +kernel
theorem d_Mod_init_185 : decode prog_14_method_1_code 185 = .ok (.bipush 12, 2) := by decide +kernel
theorem d_Mod_init_187 : decode prog_14_method_1_code 187 = .ok (.newarray .int, 2) := by decide +kernel
theorem d_Mod_init_189 : decode prog_14_method_1_code 189 = .ok (.putfield 81, 3) := by decide +kernel
theorem fp_Mod_init_81 {X : cd_E} : cd_FP X m_Mod_init 81 11 34 (.array .int) := cd_FP.of cl_11 rfl rfl (by decide) kw_5_61 (Or.inl rfl) (Or.inr ⟨rfl, rfl, rfl⟩)
theorem g_Mod_init_184 {X : cd_E} {kc ks : Nat} {h : cd_H} {Q : Option Value → cd_H → Prop} {v1 : Int32} (H : (cd_k (cd_new h (.inr (0, 12))) 82 = some (.inl 11)) ∧ (cd_W X m_Mod_init kc ks 192 [some (.ref 82), some (.int v1)] [] (cd_sr (cd_new h (.inr (0, 12))) 82 34 (some (cd_n h))) Q)) : cd_W X m_Mod_init (kc + 1) (ks + 12) 184 [some (.ref 82), some (.int v1)] [] h Q := by
  refine cd_aload_n (i := 0) (v := .ref 82) d_Mod_init_184 rfl rfl (cd_isr_ref _) ?_
  refine cd_bipush (v := 12) d_Mod_init_185 (by decide) ?_
  refine cd_newa (z := 0) (N := 12) (kc := (kc + 0)) (ks := (ks + 0)) d_Mod_init_187 rfl kw_1_96 rfl (by decide) (by decide) (by decide) ?_
  show cd_W X m_Mod_init (kc + 0) (ks + 0) 189 [some (.ref 82), some (.int v1)] [.ref (cd_n h), .ref 82] (cd_new h (.inr (0, 12))) Q
  obtain ⟨c1, H⟩ := H
  refine cd_putR (o := (some (cd_n h))) d_Mod_init_189 fp_Mod_init_81 (Or.inr ⟨_, rfl⟩) c1 (by decide) ?_
  refine cd_W.budget (kc := kc) (ks := ks) (by omega) (by omega) ?_
  exact H

theorem d_Mod_init_192 : decode prog_14_method_1_code 192 = .ok (.aload_n 0, 1) := by decide +kernel
theorem d_Mod_init_193 : decode prog_14_method_1_code 193 = .ok (.bipush 12, 2) := by decide +kernel
theorem d_Mod_init_195 : decode prog_14_method_1_code 195 = .ok (.newarray .int, 2) := by decide +kernel
theorem d_Mod_init_197 : decode prog_14_method_1_code 197 = .ok (.putfield 84, 3) := by decide +kernel
theorem fp_Mod_init_84 {X : cd_E} : cd_FP X m_Mod_init 84 11 35 (.array .int) := cd_FP.of cl_11 rfl rfl (by decide) kw_5_62 (Or.inl rfl) (Or.inr ⟨rfl, rfl, rfl⟩)
theorem g_Mod_init_192 {X : cd_E} {kc ks : Nat} {h : cd_H} {Q : Option Value → cd_H → Prop} {v1 : Int32} (H : (cd_k (cd_new h (.inr (0, 12))) 82 = some (.inl 11)) ∧ (cd_W X m_Mod_init kc ks 200 [some (.ref 82), some (.int v1)] [] (cd_sr (cd_new h (.inr (0, 12))) 82 35 (some (cd_n h))) Q)) : cd_W X m_Mod_init (kc + 1) (ks + 12) 192 [some (.ref 82), some (.int v1)] [] h Q := by
  refine cd_aload_n (i := 0) (v := .ref 82) d_Mod_init_192 rfl rfl (cd_isr_ref _) ?_
  refine cd_bipush (v := 12) d_Mod_init_193 (by decide) ?_
  refine cd_newa (z := 0) (N := 12) (kc := (kc + 0)) (ks := (ks + 0)) d_Mod_init_195 rfl kw_1_96 rfl (by decide) (by decide) (by decide) ?_
  show cd_W X m_Mod_init (kc + 0) (ks + 0) 197 [some (.ref 82), some (.int v1)] [.ref (cd_n h), .ref 82] (cd_new h (.inr (0, 12))) Q
  obtain ⟨c1, H⟩ := H
  refine cd_putR (o := (some (cd_n h))) d_Mod_init_197 fp_Mod_init_84 (Or.inr ⟨_, rfl⟩) c1 (by decide) ?_
  refine cd_W.budget (kc := kc) (ks := ks) (by omega) (by omega) ?_
  exact H

theorem d_Mod_init_200 : decode prog_14_method_1_code 200 = .ok (.aload_n 0, 1) := by decide +kernel
theorem d_Mod_init_201 : decode prog_14_method_1_code 201 = .ok (.bipush 12, 2) := by decide +kernel
theorem d_Mod_init_203 : decode prog_14_method_1_code 203 = .ok (.newarray .int, 2) := by decide +kernel
theorem d_Mod_init_205 : decode prog_14_method_1_code 205 = .ok (.putfield 87, 3) := by decide +kernel
theorem fp_Mod_init_87 {X : cd_E} : cd_FP X m_Mod_init 87 11 36 (.array .int) := cd_FP.of cl_11 rfl rfl (by decide) kw_5_63 (Or.inl rfl) (Or.inr ⟨rfl, rfl, rfl⟩)
theorem g_Mod_init_200 {X : cd_E} {kc ks : Nat} {h : cd_H} {Q : Option Value → cd_H → Prop} {v1 : Int32} (H : (cd_k (cd_new h (.inr (0, 12))) 82 = some (.inl 11)) ∧ (cd_W X m_Mod_init kc ks 208 [some (.ref 82), some (.int v1)] [] (cd_sr (cd_new h (.inr (0, 12))) 82 36 (some (cd_n h))) Q)) : cd_W X m_Mod_init (kc + 1) (ks + 12) 200 [some (.ref 82), some (.int v1)] [] h Q := by
  refine cd_aload_n (i := 0) (v := .ref 82) d_Mod_init_200 rfl rfl (cd_isr_ref _) ?_
  refine cd_bipush (v := 12) d_Mod_init_201 (by decide) ?_
  refine cd_newa (z := 0) (N := 12) (kc := (kc + 0)) (ks := (ks + 0)) d_Mod_init_203 rfl kw_1_96 rfl (by decide) (by decide) (by decide) ?_
  show cd_W X m_Mod_init (kc + 0) (ks + 0) 205 [some (.ref 82), some (.int v1)] [.ref (cd_n h), .ref 82] (cd_new h (.inr (0, 12))) Q
  obtain ⟨c1, H⟩ := H
  refine cd_putR (o := (some (cd_n h))) d_Mod_init_205 fp_Mod_init_87 (Or.inr ⟨_, rfl⟩) c1 (by decide) ?_
  refine cd_W.budget (kc := kc) (ks := ks) (by omega) (by omega) ?_
  exact H

theorem d_Mod_init_208 : decode prog_14_method_1_code 208 = .ok (.aload_n 0, 1) := by decide +kernel
theorem d_Mod_init_209 : decode prog_14_method_1_code 209 = .ok (.bipush 48, 2) := by decide +kernel
theorem d_Mod_init_211 : decode prog_14_method_1_code 211 = .ok (.newarray .boolean, 2) := by decide +kernel
theorem d_Mod_init_213 : decode prog_14_method_1_code 213 = .ok (.putfield 90, 3) := by decide +kernel
theorem fp_Mod_init_90 {X : cd_E} : cd_FP X m_Mod_init 90 11 37 (.array .boolean) := cd_FP.of cl_11 rfl rfl (by decide) kw_5_64 (Or.inl rfl) (Or.inr ⟨rfl, rfl, rfl⟩)
theorem g_Mod_init_208 {X : cd_E} {kc ks : Nat} {h : cd_H} {Q : Option Value → cd_H → Prop} {v1 : Int32} (H : (cd_k (cd_new h (.inr (2, 48))) 82 = some (.inl 11)) ∧ (cd_W X m_Mod_init kc ks 216 [some (.ref 82), some (.int v1)] [] (cd_sr (cd_new h (.inr (2, 48))) 82 37 (some (cd_n h))) Q)) : cd_W X m_Mod_init (kc + 1) (ks + 48) 208 [some (.ref 82), some (.int v1)] [] h Q := by
  refine cd_aload_n (i := 0) (v := .ref 82) d_Mod_init_208 rfl rfl (cd_isr_ref _) ?_
  refine cd_bipush (v := 48) d_Mod_init_209 (by decide) ?_
  refine cd_newa (z := 2) (N := 48) (kc := (kc + 0)) (ks := (ks + 0)) d_Mod_init_211 rfl kw_1_97 rfl (by decide) (by decide) (by decide) ?_
  show cd_W X m_Mod_init (kc + 0) (ks + 0) 213 [some (.ref 82), some (.int v1)] [.ref (cd_n h), .ref 82] (cd_new h (.inr (2, 48))) Q
  obtain ⟨c1, H⟩ := H
  refine cd_putR (o := (some (cd_n h))) d_Mod_init_213 fp_Mod_init_90 (Or.inr ⟨_, rfl⟩) c1 (by decide) ?_
  refine cd_W.budget (kc := kc) (ks := ks) (by omega) (by omega) ?_
  exact H

theorem d_Mod_init_216 : decode prog_14_method_1_code 216 = .ok (.aload_n 0, 1) := by decide +kernel
theorem d_Mod_init_217 : decode prog_14_method_1_code 217 = .ok (.bipush 48, 2) := by decide +kernel
theorem d_Mod_init_219 : decode prog_14_method_1_code 219 = .ok (.newarray .int, 2) := by decide +kernel
theorem d_Mod_init_221 : decode prog_14_method_1_code 221 = .ok (.putfield 93, 3) := by decide +kernel
theorem fp_Mod_init_93 {X : cd_E} : cd_FP X m_Mod_init 93 11 38 (.array .int) := cd_FP.of cl_11 rfl rfl (by decide) kw_5_65 (Or.inl rfl) (Or.inr ⟨rfl, rfl, rfl⟩)
theorem g_Mod_init_216 {X : cd_E} {kc ks : Nat} {h : cd_H} {Q : Option Value → cd_H → Prop} {v1 : Int32} (H : (cd_k (cd_new h (.inr (0, 48))) 82 = some (.inl 11)) ∧ (cd_W X m_Mod_init kc ks 224 [some (.ref 82), some (.int v1)] [] (cd_sr (cd_new h (.inr (0, 48))) 82 38 (some (cd_n h))) Q)) : cd_W X m_Mod_init (kc + 1) (ks + 48) 216 [some (.ref 82), some (.int v1)] [] h Q := by
  refine cd_aload_n (i := 0) (v := .ref 82) d_Mod_init_216 rfl rfl (cd_isr_ref _) ?_
  refine cd_bipush (v := 48) d_Mod_init_217 (by decide) ?_
  refine cd_newa (z := 0) (N := 48) (kc := (kc + 0)) (ks := (ks + 0)) d_Mod_init_219 rfl kw_1_96 rfl (by decide) (by decide) (by decide) ?_
  show cd_W X m_Mod_init (kc + 0) (ks + 0) 221 [some (.ref 82), some (.int v1)] [.ref (cd_n h), .ref 82] (cd_new h (.inr (0, 48))) Q
  obtain ⟨c1, H⟩ := H
  refine cd_putR (o := (some (cd_n h))) d_Mod_init_221 fp_Mod_init_93 (Or.inr ⟨_, rfl⟩) c1 (by decide) ?_
  refine cd_W.budget (kc := kc) (ks := ks) (by omega) (by omega) ?_
  exact H

theorem d_Mod_init_224 : decode prog_14_method_1_code 224 = .ok (.aload_n 0, 1) := by decide +kernel
theorem d_Mod_init_225 : decode prog_14_method_1_code 225 = .ok (.iconst (-1), 1) := by decide +kernel
theorem d_Mod_init_226 : decode prog_14_method_1_code 226 = .ok (.putfield 96, 3) := by decide +kernel
theorem fp_Mod_init_96 {X : cd_E} : cd_FP X m_Mod_init 96 11 40 .int := cd_FP.of cl_11 rfl rfl (by decide) kw_5_67 (Or.inl rfl) (Or.inl rfl)
theorem g_Mod_init_224 {X : cd_E} {kc ks : Nat} {h : cd_H} {Q : Option Value → cd_H → Prop} {v1 : Int32} (H : (cd_k h 82 = some (.inl 11)) ∧ (cd_W X m_Mod_init kc ks 229 [some (.ref 82), some (.int v1)] [] (cd_si h 82 40 (-1)) Q)) : cd_W X m_Mod_init kc ks 224 [some (.ref 82), some (.int v1)] [] h Q := by
  refine cd_aload_n (i := 0) (v := .ref 82) d_Mod_init_224 rfl rfl (cd_isr_ref _) ?_
  refine cd_iconst (v := (-1)) d_Mod_init_225 (by decide) ?_
  obtain ⟨c1, H⟩ := H
  refine cd_putI d_Mod_init_226 fp_Mod_init_96 (fun _ _ _ => rfl) c1 (by decide) rfl rfl ?_
  exact H

theorem d_Mod_init_229 : decode prog_14_method_1_code 229 = .ok (.aload_n 0, 1) := by decide +kernel
theorem d_Mod_init_230 : decode prog_14_method_1_code 230 = .ok (.bipush 100, 2) := by decide +kernel
theorem d_Mod_init_232 : decode prog_14_method_1_code 232 = .ok (.newarray .int, 2) := by decide +kernel
theorem d_Mod_init_234 : decode prog_14_method_1_code 234 = .ok (.putfield 100, 3) := by decide +kernel
theorem fp_Mod_init_100 {X : cd_E} : cd_FP X m_Mod_init 100 11 41 (.array .int) := cd_FP.of cl_11 rfl rfl (by decide) kw_5_68 (Or.inl rfl) (Or.inr ⟨rfl, rfl, rfl⟩)
theorem g_Mod_init_229 {X : cd_E} {kc ks : Nat} {h : cd_H} {Q : Option Value → cd_H → Prop} {v1 : Int32} (H : (cd_k (cd_new h (.inr (0, 100))) 82 = some (.inl 11)) ∧ (cd_W X m_Mod_init kc ks 237 [some (.ref 82), some (.int v1)] [] (cd_sr (cd_new h (.inr (0, 100))) 82 41 (some (cd_n h))) Q)) : cd_W X m_Mod_init (kc + 1) (ks + 100) 229 [some (.ref 82), some (.int v1)] [] h Q := by
  refine cd_aload_n (i := 0) (v := .ref 82) d_Mod_init_229 rfl rfl (cd_isr_ref _) ?_
  refine cd_bipush (v := 100) d_Mod_init_230 (by decide) ?_
  refine cd_newa (z := 0) (N := 100) (kc := (kc + 0)) (ks := (ks + 0)) d_Mod_init_232 rfl kw_1_96 rfl (by decide) (by decide) (by decide) ?_
  show cd_W X m_Mod_init (kc + 0) (ks + 0) 234 [some (.ref 82), some (.int v1)] [.ref (cd_n h), .ref 82] (cd_new h (.inr (0, 100))) Q
  obtain ⟨c1, H⟩ := H
  refine cd_putR (o := (some (cd_n h))) d_Mod_init_234 fp_Mod_init_100 (Or.inr ⟨_, rfl⟩) c1 (by decide) ?_
  refine cd_W.budget (kc := kc) (ks := ks) (by omega) (by omega) ?_
  exact H

theorem d_Mod_init_237 : decode prog_14_method_1_code 237 = .ok (.aload_n 0, 1) := by decide +kernel
theorem d_Mod_init_238 : decode prog_14_method_1_code 238 = .ok (.iconst 3, 1) := by decide +kernel
theorem d_Mod_init_239 : decode prog_14_method_1_code 239 = .ok (.newarray .int, 2) := by decide +kernel
theorem d_Mod_init_241 : decode prog_14_method_1_code 241 = .ok (.putfield 103, 3) := by decide +kernel
theorem fp_Mod_init_103 {X : cd_E} : cd_FP X m_Mod_init 103 11 43 (.array .int) := cd_FP.of cl_11 rfl rfl (by decide) kw_5_70 (Or.inl rfl) (Or.inr ⟨rfl, rfl, rfl⟩)
theorem g_Mod_init_237 {X : cd_E} {kc ks : Nat} {h : cd_H} {Q : Option Value → cd_H → Prop} {v1 : Int32} (H : (cd_k (cd_new h (.inr (0, 3))) 82 = some (.inl 11)) ∧ (cd_W X m_Mod_init kc ks 244 [some (.ref 82), some (.int v1)] [] (cd_sr (cd_new h (.inr (0, 3))) 82 43 (some (cd_n h))) Q)) : cd_W X m_Mod_init (kc + 1) (ks + 3) 237 [some (.ref 82), some (.int v1)] [] h Q := by
  refine cd_aload_n (i := 0) (v := .ref 82) d_Mod_init_237 rfl rfl (cd_isr_ref _) ?_
  refine cd_iconst (v := 3) d_Mod_init_238 (by decide) ?_
  refine cd_newa (z := 0) (N := 3) (kc := (kc + 0)) (ks := (ks + 0)) d_Mod_init_239 rfl kw_1_96 rfl (by decide) (by decide) (by decide) ?_
  show cd_W X m_Mod_init (kc + 0) (ks + 0) 241 [some (.ref 82), some (.int v1)] [.ref (cd_n h), .ref 82] (cd_new h (.inr (0, 3))) Q
  obtain ⟨c1, H⟩ := H
  refine cd_putR (o := (some (cd_n h))) d_Mod_init_241 fp_Mod_init_103 (Or.inr ⟨_, rfl⟩) c1 (by decide) ?_
  refine cd_W.budget (kc := kc) (ks := ks) (by omega) (by omega) ?_
  exact H

theorem d_Mod_init_244 : decode prog_14_method_1_code 244 = .ok (.aload_n 0, 1) := by decide +kernel
theorem d_Mod_init_245 : decode prog_14_method_1_code 245 = .ok (.iconst 3, 1) := by decide +kernel
theorem d_Mod_init_246 : decode prog_14_method_1_code 246 = .ok (.newarray .int, 2) := by decide +kernel
theorem d_Mod_init_248 : decode prog_14_method_1_code 248 = .ok (.putfield 106, 3) := by decide +kernel
theorem fp_Mod_init_106 {X : cd_E} : cd_FP X m_Mod_init 106 11 44 (.array .int) := cd_FP.of cl_11 rfl rfl (by decide) kw_5_71 (Or.inl rfl) (Or.inr ⟨rfl, rfl, rfl⟩)
theorem g_Mod_init_244 {X : cd_E} {kc ks : Nat} {h : cd_H} {Q : Option Value → cd_H → Prop} {v1 : Int32} (H : (cd_k (cd_new h (.inr (0, 3))) 82 = some (.inl 11)) ∧ (cd_W X m_Mod_init kc ks 251 [some (.ref 82), some (.int v1)] [] (cd_sr (cd_new h (.inr (0, 3))) 82 44 (some (cd_n h))) Q)) : cd_W X m_Mod_init (kc + 1) (ks + 3) 244 [some (.ref 82), some (.int v1)] [] h Q := by
  refine cd_aload_n (i := 0) (v := .ref 82) d_Mod_init_244 rfl rfl (cd_isr_ref _) ?_
  refine cd_iconst (v := 3) d_Mod_init_245 (by decide) ?_
  refine cd_newa (z := 0) (N := 3) (kc := (kc + 0)) (ks := (ks + 0)) d_Mod_init_246 rfl kw_1_96 rfl (by decide) (by decide) (by decide) ?_
  show cd_W X m_Mod_init (kc + 0) (ks + 0) 248 [some (.ref 82), some (.int v1)] [.ref (cd_n h), .ref 82] (cd_new h (.inr (0, 3))) Q
  obtain ⟨c1, H⟩ := H
  refine cd_putR (o := (some (cd_n h))) d_Mod_init_248 fp_Mod_init_106 (Or.inr ⟨_, rfl⟩) c1 (by decide) ?_
  refine cd_W.budget (kc := kc) (ks := ks) (by omega) (by omega) ?_
  exact H

theorem d_Mod_init_251 : decode prog_14_method_1_code 251 = .ok (.aload_n 0, 1) := by decide +kernel
theorem d_Mod_init_252 : decode prog_14_method_1_code 252 = .ok (.iconst 2, 1) := by decide +kernel
theorem d_Mod_init_253 : decode prog_14_method_1_code 253 = .ok (.iload_n 1, 1) := by decide +kernel
theorem d_Mod_init_254 : decode prog_14_method_1_code 254 = .ok (.bipush 7, 2) := by decide +kernel
theorem d_Mod_init_256 : decode prog_14_method_1_code 256 = .ok (.iand, 1) := by decide +kernel
theorem d_Mod_init_257 : decode prog_14_method_1_code 257 = .ok (.iadd, 1) := by decide +kernel
theorem d_Mod_init_258 : decode prog_14_method_1_code 258 = .ok (.putfield 109, 3) := by decide +kernel
theorem fp_Mod_init_109 {X : cd_E} : cd_FP X m_Mod_init 109 11 0 .int := cd_FP.of cl_11 rfl rfl (by decide) kw_5_27 (Or.inl rfl) (Or.inr ⟨rfl, rfl, rfl⟩)
theorem g_Mod_init_251 {X : cd_E} {kc ks : Nat} {h : cd_H} {Q : Option Value → cd_H → Prop} {v1 : Int32} (H : (cd_k h 82 = some (.inl 11)) ∧ (cd_W X m_Mod_init kc ks 261 [some (.ref 82), some (.int v1)] [] (cd_si h 82 0 (2 + (v1 &&& 7))) Q)) : cd_W X m_Mod_init kc ks 251 [some (.ref 82), some (.int v1)] [] h Q := by
  refine cd_aload_n (i := 0) (v := .ref 82) d_Mod_init_251 rfl rfl (cd_isr_ref _) ?_
  show cd_W X m_Mod_init kc ks 252 [some (.ref 82), some (.int v1)] [.ref 82] h Q
  refine cd_iconst (v := 2) d_Mod_init_252 (by decide) ?_
  refine cd_iload_n (i := 1) d_Mod_init_253 rfl rfl ?_
  refine cd_bipush (v := 7) d_Mod_init_254 (by decide) ?_
  refine cd_iand d_Mod_init_256 ?_
  refine cd_iadd d_Mod_init_257 ?_
  obtain ⟨c1, H⟩ := H
  refine cd_putI d_Mod_init_258 fp_Mod_init_109 (fun _ _ _ => rfl) c1 (by decide) rfl rfl ?_
  exact H

theorem d_Mod_init_261 : decode prog_14_method_1_code 261 = .ok (.aload_n 0, 1) := by decide +kernel
theorem d_Mod_init_262 : decode prog_14_method_1_code 262 = .ok (.iconst 0, 1) := by decide +kernel
theorem d_Mod_init_263 : decode prog_14_method_1_code 263 = .ok (.bipush 101, 2) := by decide +kernel
theorem d_Mod_init_265 : decode prog_14_method_1_code 265 = .ok (.bipush 113, 2) := by decide +kernel
theorem d_Mod_init_267 : decode prog_14_method_1_code 267 = .ok (.iconst 3, 1) := by decide +kernel
theorem d_Mod_init_268 : decode prog_14_method_1_code 268 = .ok (.invokevirtual 112, 3) := by decide +kernel
theorem kw_5_22 : (Jvm.Cond.methodLink "CertificateDeskModel" (112 : Nat) ({ cls := "CertificateDeskModel", name := "key", desc := "(IIII)V" } : Jvm.MethodName)) ∈ cd_tbl := tb_5 (List.mem_of_getElem? (i := 22) (by decide +kernel)) (by decide)
theorem kw_5_25 : (Jvm.Cond.code ({ cls := "CertificateDeskModel", name := "key", desc := "(IIII)V" } : Jvm.MethodName) prog_14_method_2_code (5 : Nat) (Option.none : Option Jvm.ClassFile.FieldType)) ∈ cd_tbl := tb_5 (List.mem_of_getElem? (i := 25) (by decide +kernel)) (by decide)
theorem kw_5_24 : (Jvm.Cond.instanceMethod ({ cls := "CertificateDeskModel", name := "key", desc := "(IIII)V" } : Jvm.MethodName)) ∈ cd_tbl := tb_5 (List.mem_of_getElem? (i := 24) (by decide +kernel)) (by decide)
theorem kp_37 : Cond.selects "CertificateDeskModel" ⟨"CertificateDeskModel", "key", "(IIII)V"⟩ ⟨"CertificateDeskModel", "key", "(IIII)V"⟩ ∈ cd_tbl := cd_sel (List.mem_of_getElem? (i := 37) (by decide +kernel)) (by decide)
theorem ca_Mod_init_112 {X : cd_E} : cd_CV X m_Mod_init m_Mod_key 112 4 11 := ⟨⟨by decide, kw_5_25, kw_1_10, ⟨by decide, by decide, by decide +kernel⟩, by decide, by decide⟩, ⟨_, rfl, rfl⟩, kw_5_24, kp_37, (Or.inl kw_5_22)⟩
theorem g_Mod_init_261 {X : cd_E} {kc ks : Nat} {h : cd_H} {Q : Option Value → cd_H → Prop} {v1 : Int32} (H : (cd_k h 82 = some (.inl 11)) ∧ (cd_W X m_Mod_key 0 0 0 [some (.ref 82), some (.int 0), some (.int 101), some (.int 113), some (.int 3)] [] h (fun r2 h3 => (r2 = none) ∧ (cd_W X m_Mod_init kc ks 271 [some (.ref 82), some (.int v1)] [] h3 Q)))) : cd_W X m_Mod_init kc ks 261 [some (.ref 82), some (.int v1)] [] h Q := by
  refine cd_aload_n (i := 0) (v := .ref 82) d_Mod_init_261 rfl rfl (cd_isr_ref _) ?_
  show cd_W X m_Mod_init kc ks 262 [some (.ref 82), some (.int v1)] [.ref 82] h Q
  refine cd_iconst (v := 0) d_Mod_init_262 (by decide) ?_
  refine cd_bipush (v := 101) d_Mod_init_263 (by decide) ?_
  refine cd_bipush (v := 113) d_Mod_init_265 (by decide) ?_
  refine cd_iconst (v := 3) d_Mod_init_267 (by decide) ?_
  obtain ⟨c1, H⟩ := H
  refine cd_callV (kc := kc) (ks := ks) (kc' := 0) (ks' := 0) (As := [.int 0, .int 101, .int 113, .int 3]) (S := []) d_Mod_init_268 ca_Mod_init_112 c1 rfl (Nat.le_of_ble_eq_true rfl) (Nat.le_of_ble_eq_true rfl) ?_
  refine cd_W.mono (fun r2 h3 H => ?_) H
  obtain ⟨rfl, H⟩ := H
  show cd_W X m_Mod_init kc ks 271 [some (.ref 82), some (.int v1)] [] h3 Q
  exact H

theorem d_Mod_init_271 : decode prog_14_method_1_code 271 = .ok (.aload_n 0, 1) := by decide +kernel
theorem d_Mod_init_272 : decode prog_14_method_1_code 272 = .ok (.iconst 1, 1) := by decide +kernel
theorem d_Mod_init_273 : decode prog_14_method_1_code 273 = .ok (.sipush 211, 3) := by decide +kernel
theorem d_Mod_init_276 : decode prog_14_method_1_code 276 = .ok (.sipush 223, 3) := by decide +kernel
theorem d_Mod_init_279 : decode prog_14_method_1_code 279 = .ok (.bipush 11, 2) := by decide +kernel
theorem d_Mod_init_281 : decode prog_14_method_1_code 281 = .ok (.invokevirtual 112, 3) := by decide +kernel
theorem g_Mod_init_271 {X : cd_E} {kc ks : Nat} {h : cd_H} {Q : Option Value → cd_H → Prop} {v1 : Int32} (H : (cd_k h 82 = some (.inl 11)) ∧ (cd_W X m_Mod_key 0 0 0 [some (.ref 82), some (.int 1), some (.int 211), some (.int 223), some (.int 11)] [] h (fun r2 h3 => (r2 = none) ∧ (cd_W X m_Mod_init kc ks 284 [some (.ref 82), some (.int v1)] [] h3 Q)))) : cd_W X m_Mod_init kc ks 271 [some (.ref 82), some (.int v1)] [] h Q := by
  refine cd_aload_n (i := 0) (v := .ref 82) d_Mod_init_271 rfl rfl (cd_isr_ref _) ?_
  show cd_W X m_Mod_init kc ks 272 [some (.ref 82), some (.int v1)] [.ref 82] h Q
  refine cd_iconst (v := 1) d_Mod_init_272 (by decide) ?_
  refine cd_sipush (v := 211) d_Mod_init_273 (by decide) ?_
  refine cd_sipush (v := 223) d_Mod_init_276 (by decide) ?_
  refine cd_bipush (v := 11) d_Mod_init_279 (by decide) ?_
  obtain ⟨c1, H⟩ := H
  refine cd_callV (kc := kc) (ks := ks) (kc' := 0) (ks' := 0) (As := [.int 1, .int 211, .int 223, .int 11]) (S := []) d_Mod_init_281 ca_Mod_init_112 c1 rfl (Nat.le_of_ble_eq_true rfl) (Nat.le_of_ble_eq_true rfl) ?_
  refine cd_W.mono (fun r2 h3 H => ?_) H
  obtain ⟨rfl, H⟩ := H
  show cd_W X m_Mod_init kc ks 284 [some (.ref 82), some (.int v1)] [] h3 Q
  exact H

theorem d_Mod_init_284 : decode prog_14_method_1_code 284 = .ok (.aload_n 0, 1) := by decide +kernel
theorem d_Mod_init_285 : decode prog_14_method_1_code 285 = .ok (.iconst 2, 1) := by decide +kernel
theorem d_Mod_init_286 : decode prog_14_method_1_code 286 = .ok (.sipush 1009, 3) := by decide +kernel
theorem d_Mod_init_289 : decode prog_14_method_1_code 289 = .ok (.sipush 1013, 3) := by decide +kernel
theorem d_Mod_init_292 : decode prog_14_method_1_code 292 = .ok (.iconst 5, 1) := by decide +kernel
theorem d_Mod_init_293 : decode prog_14_method_1_code 293 = .ok (.invokevirtual 112, 3) := by decide +kernel
theorem g_Mod_init_284 {X : cd_E} {kc ks : Nat} {h : cd_H} {Q : Option Value → cd_H → Prop} {v1 : Int32} (H : (cd_k h 82 = some (.inl 11)) ∧ (cd_W X m_Mod_key 0 0 0 [some (.ref 82), some (.int 2), some (.int 1009), some (.int 1013), some (.int 5)] [] h (fun r2 h3 => (r2 = none) ∧ (cd_W X m_Mod_init kc ks 296 [some (.ref 82), some (.int v1)] [] h3 Q)))) : cd_W X m_Mod_init kc ks 284 [some (.ref 82), some (.int v1)] [] h Q := by
  refine cd_aload_n (i := 0) (v := .ref 82) d_Mod_init_284 rfl rfl (cd_isr_ref _) ?_
  show cd_W X m_Mod_init kc ks 285 [some (.ref 82), some (.int v1)] [.ref 82] h Q
  refine cd_iconst (v := 2) d_Mod_init_285 (by decide) ?_
  refine cd_sipush (v := 1009) d_Mod_init_286 (by decide) ?_
  refine cd_sipush (v := 1013) d_Mod_init_289 (by decide) ?_
  refine cd_iconst (v := 5) d_Mod_init_292 (by decide) ?_
  obtain ⟨c1, H⟩ := H
  refine cd_callV (kc := kc) (ks := ks) (kc' := 0) (ks' := 0) (As := [.int 2, .int 1009, .int 1013, .int 5]) (S := []) d_Mod_init_293 ca_Mod_init_112 c1 rfl (Nat.le_of_ble_eq_true rfl) (Nat.le_of_ble_eq_true rfl) ?_
  refine cd_W.mono (fun r2 h3 H => ?_) H
  obtain ⟨rfl, H⟩ := H
  show cd_W X m_Mod_init kc ks 296 [some (.ref 82), some (.int v1)] [] h3 Q
  exact H

theorem d_Mod_init_296 : decode prog_14_method_1_code 296 = .ok (.aload_n 0, 1) := by decide +kernel
theorem d_Mod_init_297 : decode prog_14_method_1_code 297 = .ok (.iconst 3, 1) := by decide +kernel
theorem d_Mod_init_298 : decode prog_14_method_1_code 298 = .ok (.sipush 10007, 3) := by decide +kernel
theorem d_Mod_init_301 : decode prog_14_method_1_code 301 = .ok (.sipush 10009, 3) := by decide +kernel
theorem d_Mod_init_304 : decode prog_14_method_1_code 304 = .ok (.bipush 7, 2) := by decide +kernel
theorem d_Mod_init_306 : decode prog_14_method_1_code 306 = .ok (.invokevirtual 112, 3) := by decide +kernel
theorem g_Mod_init_296 {X : cd_E} {kc ks : Nat} {h : cd_H} {Q : Option Value → cd_H → Prop} {v1 : Int32} (H : (cd_k h 82 = some (.inl 11)) ∧ (cd_W X m_Mod_key 0 0 0 [some (.ref 82), some (.int 3), some (.int 10007), some (.int 10009), some (.int 7)] [] h (fun r2 h3 => (r2 = none) ∧ (cd_W X m_Mod_init kc ks 309 [some (.ref 82), some (.int v1)] [] h3 Q)))) : cd_W X m_Mod_init kc ks 296 [some (.ref 82), some (.int v1)] [] h Q := by
  refine cd_aload_n (i := 0) (v := .ref 82) d_Mod_init_296 rfl rfl (cd_isr_ref _) ?_
  show cd_W X m_Mod_init kc ks 297 [some (.ref 82), some (.int v1)] [.ref 82] h Q
  refine cd_iconst (v := 3) d_Mod_init_297 (by decide) ?_
  refine cd_sipush (v := 10007) d_Mod_init_298 (by decide) ?_
  refine cd_sipush (v := 10009) d_Mod_init_301 (by decide) ?_
  refine cd_bipush (v := 7) d_Mod_init_304 (by decide) ?_
  obtain ⟨c1, H⟩ := H
  refine cd_callV (kc := kc) (ks := ks) (kc' := 0) (ks' := 0) (As := [.int 3, .int 10007, .int 10009, .int 7]) (S := []) d_Mod_init_306 ca_Mod_init_112 c1 rfl (Nat.le_of_ble_eq_true rfl) (Nat.le_of_ble_eq_true rfl) ?_
  refine cd_W.mono (fun r2 h3 H => ?_) H
  obtain ⟨rfl, H⟩ := H
  show cd_W X m_Mod_init kc ks 309 [some (.ref 82), some (.int v1)] [] h3 Q
  exact H

theorem d_Mod_init_309 : decode prog_14_method_1_code 309 = .ok (.aload_n 0, 1) := by decide +kernel
theorem d_Mod_init_310 : decode prog_14_method_1_code 310 = .ok (.iconst 4, 1) := by decide +kernel
theorem d_Mod_init_311 : decode prog_14_method_1_code 311 = .ok (.sipush 32749, 3) := by decide +kernel
theorem d_Mod_init_314 : decode prog_14_method_1_code 314 = .ok (.sipush 32719, 3) := by decide +kernel
theorem d_Mod_init_317 : decode prog_14_method_1_code 317 = .ok (.ldc 116, 2) := by decide +kernel
theorem kw_5_26 : (Jvm.Cond.constant "CertificateDeskModel" (116 : Nat) (65537 : Int32)) ∈ cd_tbl := tb_5 (List.mem_of_getElem? (i := 26) (by decide +kernel)) (by decide)
theorem d_Mod_init_319 : decode prog_14_method_1_code 319 = .ok (.invokevirtual 112, 3) := by decide +kernel
theorem g_Mod_init_309 {X : cd_E} {kc ks : Nat} {h : cd_H} {Q : Option Value → cd_H → Prop} {v1 : Int32} (H : (cd_k h 82 = some (.inl 11)) ∧ (cd_W X m_Mod_key 0 0 0 [some (.ref 82), some (.int 4), some (.int 32749), some (.int 32719), some (.int 65537)] [] h (fun r2 h3 => (r2 = none) ∧ (cd_W X m_Mod_init kc ks 322 [some (.ref 82), some (.int v1)] [] h3 Q)))) : cd_W X m_Mod_init kc ks 309 [some (.ref 82), some (.int v1)] [] h Q := by
  refine cd_aload_n (i := 0) (v := .ref 82) d_Mod_init_309 rfl rfl (cd_isr_ref _) ?_
  show cd_W X m_Mod_init kc ks 310 [some (.ref 82), some (.int v1)] [.ref 82] h Q
  refine cd_iconst (v := 4) d_Mod_init_310 (by decide) ?_
  refine cd_sipush (v := 32749) d_Mod_init_311 (by decide) ?_
  refine cd_sipush (v := 32719) d_Mod_init_314 (by decide) ?_
  refine cd_ldc (v := 65537) d_Mod_init_317 kw_5_26 ?_
  obtain ⟨c1, H⟩ := H
  refine cd_callV (kc := kc) (ks := ks) (kc' := 0) (ks' := 0) (As := [.int 4, .int 32749, .int 32719, .int 65537]) (S := []) d_Mod_init_319 ca_Mod_init_112 c1 rfl (Nat.le_of_ble_eq_true rfl) (Nat.le_of_ble_eq_true rfl) ?_
  refine cd_W.mono (fun r2 h3 H => ?_) H
  obtain ⟨rfl, H⟩ := H
  show cd_W X m_Mod_init kc ks 322 [some (.ref 82), some (.int v1)] [] h3 Q
  exact H

theorem d_Mod_init_322 : decode prog_14_method_1_code 322 = .ok (.return_, 1) := by decide +kernel
theorem g_Mod_init_322 {X : cd_E} {kc ks : Nat} {h : cd_H} {Q : Option Value → cd_H → Prop} {v1 : Int32} (H : Q none h) : cd_W X m_Mod_init kc ks 322 [some (.ref 82), some (.int v1)] [] h Q := by
  exact cd_vret d_Mod_init_322 rfl H

theorem d_Law_law_0 : decode code 0 = .ok (.new 7, 3) := by decide +kernel
theorem kw_1_29 : (Jvm.Cond.classLink "CertificateDeskLaw" (7 : Nat) "CertificateDesk") ∈ cd_tbl := tb_1 (List.mem_of_getElem? (i := 29) (by decide +kernel)) (by decide)
theorem nc_Law_7 : cd_NC "CertificateDeskLaw" 7 0 14 := cd_NC.of cl_0 rfl kw_1_29
theorem d_Law_law_3 : decode code 3 = .ok (.dup, 1) := by decide +kernel
theorem d_Law_law_4 : decode code 4 = .ok (.aload_n 0, 1) := by decide +kernel
theorem d_Law_law_5 : decode code 5 = .ok (.iconst 0, 1) := by decide +kernel
theorem d_Law_law_6 : decode code 6 = .ok (.invokestatic 9, 3) := by decide +kernel
theorem kw_5_13 : (Jvm.Cond.methodLink "CertificateDeskLaw" (9 : Nat) ({ cls := "CertificateDeskLaw", name := "cell", desc := "([II)I" } : Jvm.MethodName)) ∈ cd_tbl := tb_5 (List.mem_of_getElem? (i := 13) (by decide +kernel)) (by decide)
theorem kw_5_15 : (Jvm.Cond.code ({ cls := "CertificateDeskLaw", name := "cell", desc := "([II)I" } : Jvm.MethodName) method_2_code (2 : Nat) (Option.some Jvm.ClassFile.FieldType.int)) ∈ cd_tbl := tb_5 (List.mem_of_getElem? (i := 15) (by decide +kernel)) (by decide)
theorem kw_1_0 : (Jvm.Cond.initialized "CertificateDeskLaw") ∈ cd_tbl := tb_1 (List.mem_of_getElem? (i := 0) (by decide +kernel)) (by decide)
theorem kw_5_14 : (Jvm.Cond.static ({ cls := "CertificateDeskLaw", name := "cell", desc := "([II)I" } : Jvm.MethodName)) ∈ cd_tbl := tb_5 (List.mem_of_getElem? (i := 14) (by decide +kernel)) (by decide)
theorem ca_Law_law_9 {X : cd_E} : cd_CS X m_Law_law m_Law_cell 9 2 := ⟨⟨by decide, kw_5_15, kw_1_0, ⟨by decide, by decide, by decide +kernel⟩, by decide, by decide⟩, kw_5_14, (Or.inl kw_5_13)⟩
theorem d_Law_law_9 : decode code 9 = .ok (.invokespecial 15, 3) := by decide +kernel
theorem kw_1_31 : (Jvm.Cond.methodLink "CertificateDeskLaw" (15 : Nat) ({ cls := "CertificateDesk", name := "<init>", desc := "(I)V" } : Jvm.MethodName)) ∈ cd_tbl := tb_1 (List.mem_of_getElem? (i := 31) (by decide +kernel)) (by decide)
theorem kw_1_33 : (Jvm.Cond.code ({ cls := "CertificateDesk", name := "<init>", desc := "(I)V" } : Jvm.MethodName) prog_1_method_1_code (2 : Nat) (Option.none : Option Jvm.ClassFile.FieldType)) ∈ cd_tbl := tb_1 (List.mem_of_getElem? (i := 33) (by decide +kernel)) (by decide)
theorem kw_1_32 : (Jvm.Cond.instanceMethod ({ cls := "CertificateDesk", name := "<init>", desc := "(I)V" } : Jvm.MethodName)) ∈ cd_tbl := tb_1 (List.mem_of_getElem? (i := 32) (by decide +kernel)) (by decide)
theorem ca_Law_law_15 {X : cd_E} : cd_CI X m_Law_law m_Desk_init 15 1 := ⟨⟨by decide, kw_1_33, kw_1_1, ⟨by decide, by decide, by decide +kernel⟩, by decide, by decide⟩, rfl, rfl, kw_1_32, (Or.inl kw_1_31)⟩
theorem d_Law_law_12 : decode code 12 = .ok (.astore_n 1, 1) := by decide +kernel
theorem d_Law_law_13 : decode code 13 = .ok (.new 18, 3) := by decide +kernel
theorem kw_5_16 : (Jvm.Cond.classLink "CertificateDeskLaw" (18 : Nat) "CertificateDeskModel") ∈ cd_tbl := tb_5 (List.mem_of_getElem? (i := 16) (by decide +kernel)) (by decide)
theorem nc_Law_18 : cd_NC "CertificateDeskLaw" 18 11 45 := cd_NC.of cl_11 rfl kw_5_16
theorem d_Law_law_16 : decode code 16 = .ok (.dup, 1) := by decide +kernel
theorem d_Law_law_17 : decode code 17 = .ok (.aload_n 0, 1) := by decide +kernel
theorem d_Law_law_18 : decode code 18 = .ok (.iconst 0, 1) := by decide +kernel
theorem d_Law_law_19 : decode code 19 = .ok (.invokestatic 9, 3) := by decide +kernel
theorem d_Law_law_22 : decode code 22 = .ok (.invokespecial 20, 3) := by decide +kernel
theorem kw_5_18 : (Jvm.Cond.methodLink "CertificateDeskLaw" (20 : Nat) ({ cls := "CertificateDeskModel", name := "<init>", desc := "(I)V" } : Jvm.MethodName)) ∈ cd_tbl := tb_5 (List.mem_of_getElem? (i := 18) (by decide +kernel)) (by decide)
theorem kw_5_20 : (Jvm.Cond.code ({ cls := "CertificateDeskModel", name := "<init>", desc := "(I)V" } : Jvm.MethodName) prog_14_method_1_code (2 : Nat) (Option.none : Option Jvm.ClassFile.FieldType)) ∈ cd_tbl := tb_5 (List.mem_of_getElem? (i := 20) (by decide +kernel)) (by decide)
theorem kw_5_19 : (Jvm.Cond.instanceMethod ({ cls := "CertificateDeskModel", name := "<init>", desc := "(I)V" } : Jvm.MethodName)) ∈ cd_tbl := tb_5 (List.mem_of_getElem? (i := 19) (by decide +kernel)) (by decide)
theorem ca_Law_law_20 {X : cd_E} : cd_CI X m_Law_law m_Mod_init 20 1 := ⟨⟨by decide, kw_5_20, kw_1_10, ⟨by decide, by decide, by decide +kernel⟩, by decide, by decide⟩, rfl, rfl, kw_5_19, (Or.inl kw_5_18)⟩
theorem d_Law_law_25 : decode code 25 = .ok (.astore_n 2, 1) := by decide +kernel
theorem d_Law_law_26 : decode code 26 = .ok (.iconst 1, 1) := by decide +kernel
theorem d_Law_law_27 : decode code 27 = .ok (.istore_n 3, 1) := by decide +kernel
theorem g_Law_law {X : cd_E} {kc ks : Nat} {h : cd_H} {Q : Option Value → cd_H → Prop}  (H : cd_W X m_Law_cell 0 0 0 [some (.ref 35), some (.int 0)] [] (cd_new h (.inl 0)) (fun r1 h2 => ∃ x3 : Int32, r1 = some (.int x3) ∧ (cd_W X m_Desk_init 17 731 0 [some (.ref (cd_n h)), some (.int x3)] [] h2 (fun r4 h5 => (r4 = none) ∧ (cd_W X m_Law_cell 0 0 0 [some (.ref 35), some (.int 0)] [] (cd_new h5 (.inl 11)) (fun r6 h7 => ∃ x8 : Int32, r6 = some (.int x8) ∧ (cd_W X m_Mod_init 31 1433 0 [some (.ref (cd_n h5)), some (.int x8)] [] h7 (fun r9 h10 => (r9 = none) ∧ (cd_W X m_Law_law kc ks 28 [some (.ref 35), some (.ref (cd_n h)), some (.ref (cd_n h5)), some (.int 1)] [] h10 Q))))))))) : cd_W X m_Law_law (kc + 50) (ks + 2223) 0 [some (.ref 35), none, none, none] [] h Q := by
  refine cd_newo (n := 14) (kc := (kc + 49)) (ks := (ks + 2209)) d_Law_law_0 nc_Law_7 ?_
  show cd_W X m_Law_law (kc + 49) (ks + 2209) 3 [some (.ref 35), none, none, none] [.ref (cd_n h)] (cd_new h (.inl 0)) Q
  refine cd_dup d_Law_law_3 rfl ?_
  refine cd_aload_n (i := 0) (v := .ref 35) d_Law_law_4 rfl rfl (cd_isr_ref _) ?_
  refine cd_iconst (v := 0) d_Law_law_5 (by decide) ?_
  refine cd_callS (kc := (kc + 49)) (ks := (ks + 2209)) (kc' := 0) (ks' := 0) (As := [.ref 35, .int 0]) (S := [.ref (cd_n h), .ref (cd_n h)]) d_Law_law_6 ca_Law_law_9 rfl (Nat.le_of_ble_eq_true rfl) (Nat.le_of_ble_eq_true rfl) ?_
  refine cd_W.mono (fun r1 h2 H => ?_) H
  obtain ⟨x3, rfl, H⟩ := H
  show cd_W X m_Law_law (kc + 49) (ks + 2209) 9 [some (.ref 35), none, none, none] [.int x3, .ref (cd_n h), .ref (cd_n h)] h2 Q
  refine cd_callI (kc := (kc + 32)) (ks := (ks + 1478)) (kc' := 17) (ks' := 731) (As := [.int x3]) (S := [.ref (cd_n h)]) d_Law_law_9 ca_Law_law_15 rfl (Nat.le_of_ble_eq_true rfl) (Nat.le_of_ble_eq_true rfl) ?_
  refine cd_W.mono (fun r4 h5 H => ?_) H
  obtain ⟨rfl, H⟩ := H
  show cd_W X m_Law_law (kc + 32) (ks + 1478) 12 [some (.ref 35), none, none, none] [.ref (cd_n h)] h5 Q
  refine cd_astore_n (i := 1) d_Law_law_12 rfl (by decide) (cd_isr_ref _) ?_
  show cd_W X m_Law_law (kc + 32) (ks + 1478) 13 [some (.ref 35), some (.ref (cd_n h)), none, none] [] h5 Q
  refine cd_newo (n := 45) (kc := (kc + 31)) (ks := (ks + 1433)) d_Law_law_13 nc_Law_18 ?_
  refine cd_dup d_Law_law_16 rfl ?_
  show cd_W X m_Law_law (kc + 31) (ks + 1433) 17 [some (.ref 35), some (.ref (cd_n h)), none, none] [.ref (cd_n h5), .ref (cd_n h5)] (cd_new h5 (.inl 11)) Q
  refine cd_aload_n (i := 0) (v := .ref 35) d_Law_law_17 rfl rfl (cd_isr_ref _) ?_
  refine cd_iconst (v := 0) d_Law_law_18 (by decide) ?_
  refine cd_callS (kc := (kc + 31)) (ks := (ks + 1433)) (kc' := 0) (ks' := 0) (As := [.ref 35, .int 0]) (S := [.ref (cd_n h5), .ref (cd_n h5)]) d_Law_law_19 ca_Law_law_9 rfl (Nat.le_of_ble_eq_true rfl) (Nat.le_of_ble_eq_true rfl) ?_
  refine cd_W.mono (fun r6 h7 H => ?_) H
  obtain ⟨x8, rfl, H⟩ := H
  show cd_W X m_Law_law (kc + 31) (ks + 1433) 22 [some (.ref 35), some (.ref (cd_n h)), none, none] [.int x8, .ref (cd_n h5), .ref (cd_n h5)] h7 Q
  refine cd_callI (kc := (kc + 0)) (ks := (ks + 0)) (kc' := 31) (ks' := 1433) (As := [.int x8]) (S := [.ref (cd_n h5)]) d_Law_law_22 ca_Law_law_20 rfl (Nat.le_of_ble_eq_true rfl) (Nat.le_of_ble_eq_true rfl) ?_
  refine cd_W.mono (fun r9 h10 H => ?_) H
  obtain ⟨rfl, H⟩ := H
  show cd_W X m_Law_law (kc + 0) (ks + 0) 25 [some (.ref 35), some (.ref (cd_n h)), none, none] [.ref (cd_n h5)] h10 Q
  refine cd_astore_n (i := 2) d_Law_law_25 rfl (by decide) (cd_isr_ref _) ?_
  show cd_W X m_Law_law (kc + 0) (ks + 0) 26 [some (.ref 35), some (.ref (cd_n h)), some (.ref (cd_n h5)), none] [] h10 Q
  refine cd_iconst (v := 1) d_Law_law_26 (by decide) ?_
  refine cd_istore_n (i := 3) d_Law_law_27 rfl (by decide) ?_
  show cd_W X m_Law_law (kc + 0) (ks + 0) 28 [some (.ref 35), some (.ref (cd_n h)), some (.ref (cd_n h5)), some (.int 1)] [] h10 Q
  refine cd_W.budget (kc := kc) (ks := ks) (by omega) (by omega) ?_
  exact H

