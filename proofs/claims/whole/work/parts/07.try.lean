abbrev m_Mod_put : cd_M := (⟨"CertificateDeskModel", "put", "(I)V"⟩, prog_14_method_3_code, 2, none, 1, 20)
theorem d_Mod_put_0 : decode prog_14_method_3_code 0 = .ok (.aload_n 0, 1) := by decide +kernel
theorem d_Mod_put_1 : decode prog_14_method_3_code 1 = .ok (.ldc2_w 117, 3) := by decide +kernel
theorem kw_5_205 : (Jvm.Cond.constantLong "CertificateDeskModel" (117 : Nat) (263 : Int64)) ∈ cd_tbl := tb_5 (List.mem_of_getElem? (i := 205) (by decide +kernel)) (by decide)
theorem d_Mod_put_4 : decode prog_14_method_3_code 4 = .ok (.aload_n 0, 1) := by decide +kernel
theorem d_Mod_put_5 : decode prog_14_method_3_code 5 = .ok (.getfield 119, 3) := by decide +kernel
theorem kw_5_34 : (Jvm.Cond.fieldLink "CertificateDeskModel" (119 : Nat) "CertificateDeskModel" "digest" "J") ∈ cd_tbl := tb_5 (List.mem_of_getElem? (i := 34) (by decide +kernel)) (by decide)
theorem fl_Mod_119 {X : cd_E} : cd_FL X "CertificateDeskModel" 119 11 7 .long := cd_FL.of rfl rfl (by decide) kw_5_34 (Or.inl rfl)
theorem d_Mod_put_8 : decode prog_14_method_3_code 8 = .ok (.lmul, 1) := by decide +kernel
theorem d_Mod_put_9 : decode prog_14_method_3_code 9 = .ok (.iload_n 1, 1) := by decide +kernel
theorem d_Mod_put_10 : decode prog_14_method_3_code 10 = .ok (.i2l, 1) := by decide +kernel
theorem d_Mod_put_11 : decode prog_14_method_3_code 11 = .ok (.ladd, 1) := by decide +kernel
theorem d_Mod_put_12 : decode prog_14_method_3_code 12 = .ok (.ldc2_w 123, 3) := by decide +kernel
theorem kw_5_206 : (Jvm.Cond.constantLong "CertificateDeskModel" (123 : Nat) (2147483647 : Int64)) ∈ cd_tbl := tb_5 (List.mem_of_getElem? (i := 206) (by decide +kernel)) (by decide)
theorem d_Mod_put_15 : decode prog_14_method_3_code 15 = .ok (.lrem, 1) := by decide +kernel
theorem d_Mod_put_16 : decode prog_14_method_3_code 16 = .ok (.putfield 119, 3) := by decide +kernel
theorem kw_5_72 : (Jvm.Cond.laysFinal "CertificateDeskModel" "CertificateDeskModel" "life" "I") ∈ cd_tbl := tb_5 (List.mem_of_getElem? (i := 72) (by decide +kernel)) (by decide)
theorem kw_5_74 : (Jvm.Cond.laysFinal "CertificateDeskModel" "CertificateDeskModel" "text" "[C") ∈ cd_tbl := tb_5 (List.mem_of_getElem? (i := 74) (by decide +kernel)) (by decide)
theorem kw_5_76 : (Jvm.Cond.lays "CertificateDeskModel" "CertificateDeskModel" "size" "I") ∈ cd_tbl := tb_5 (List.mem_of_getElem? (i := 76) (by decide +kernel)) (by decide)
theorem kw_5_78 : (Jvm.Cond.laysFinal "CertificateDeskModel" "CertificateDeskModel" "open" "[C") ∈ cd_tbl := tb_5 (List.mem_of_getElem? (i := 78) (by decide +kernel)) (by decide)
theorem kw_5_80 : (Jvm.Cond.laysFinal "CertificateDeskModel" "CertificateDeskModel" "primeP" "[I") ∈ cd_tbl := tb_5 (List.mem_of_getElem? (i := 80) (by decide +kernel)) (by decide)
theorem kw_5_82 : (Jvm.Cond.laysFinal "CertificateDeskModel" "CertificateDeskModel" "primeQ" "[I") ∈ cd_tbl := tb_5 (List.mem_of_getElem? (i := 82) (by decide +kernel)) (by decide)
theorem kw_5_84 : (Jvm.Cond.laysFinal "CertificateDeskModel" "CertificateDeskModel" "exponent" "[I") ∈ cd_tbl := tb_5 (List.mem_of_getElem? (i := 84) (by decide +kernel)) (by decide)
theorem kw_5_86 : (Jvm.Cond.lays "CertificateDeskModel" "CertificateDeskModel" "digest" "J") ∈ cd_tbl := tb_5 (List.mem_of_getElem? (i := 86) (by decide +kernel)) (by decide)
theorem kw_5_88 : (Jvm.Cond.laysFinal "CertificateDeskModel" "CertificateDeskModel" "digits" "[I") ∈ cd_tbl := tb_5 (List.mem_of_getElem? (i := 88) (by decide +kernel)) (by decide)
theorem kw_5_90 : (Jvm.Cond.lays "CertificateDeskModel" "CertificateDeskModel" "now" "I") ∈ cd_tbl := tb_5 (List.mem_of_getElem? (i := 90) (by decide +kernel)) (by decide)
theorem kw_5_92 : (Jvm.Cond.lays "CertificateDeskModel" "CertificateDeskModel" "crashes" "I") ∈ cd_tbl := tb_5 (List.mem_of_getElem? (i := 92) (by decide +kernel)) (by decide)
theorem kw_5_94 : (Jvm.Cond.lays "CertificateDeskModel" "CertificateDeskModel" "given" "I") ∈ cd_tbl := tb_5 (List.mem_of_getElem? (i := 94) (by decide +kernel)) (by decide)
theorem kw_5_96 : (Jvm.Cond.laysFinal "CertificateDeskModel" "CertificateDeskModel" "spent" "[Z") ∈ cd_tbl := tb_5 (List.mem_of_getElem? (i := 96) (by decide +kernel)) (by decide)
theorem kw_5_98 : (Jvm.Cond.lays "CertificateDeskModel" "CertificateDeskModel" "signed" "I") ∈ cd_tbl := tb_5 (List.mem_of_getElem? (i := 98) (by decide +kernel)) (by decide)
theorem kw_5_100 : (Jvm.Cond.lays "CertificateDeskModel" "CertificateDeskModel" "accounts" "I") ∈ cd_tbl := tb_5 (List.mem_of_getElem? (i := 100) (by decide +kernel)) (by decide)
theorem kw_5_102 : (Jvm.Cond.laysFinal "CertificateDeskModel" "CertificateDeskModel" "accountKey" "[I") ∈ cd_tbl := tb_5 (List.mem_of_getElem? (i := 102) (by decide +kernel)) (by decide)
theorem kw_5_104 : (Jvm.Cond.laysFinal "CertificateDeskModel" "CertificateDeskModel" "closed" "[Z") ∈ cd_tbl := tb_5 (List.mem_of_getElem? (i := 104) (by decide +kernel)) (by decide)
theorem kw_5_106 : (Jvm.Cond.lays "CertificateDeskModel" "CertificateDeskModel" "orders" "I") ∈ cd_tbl := tb_5 (List.mem_of_getElem? (i := 106) (by decide +kernel)) (by decide)
theorem kw_5_108 : (Jvm.Cond.laysFinal "CertificateDeskModel" "CertificateDeskModel" "orderOf" "[I") ∈ cd_tbl := tb_5 (List.mem_of_getElem? (i := 108) (by decide +kernel)) (by decide)
theorem kw_5_110 : (Jvm.Cond.laysFinal "CertificateDeskModel" "CertificateDeskModel" "orderAt" "[I") ∈ cd_tbl := tb_5 (List.mem_of_getElem? (i := 110) (by decide +kernel)) (by decide)
theorem kw_5_112 : (Jvm.Cond.laysFinal "CertificateDeskModel" "CertificateDeskModel" "orderNames" "[I") ∈ cd_tbl := tb_5 (List.mem_of_getElem? (i := 112) (by decide +kernel)) (by decide)
theorem kw_5_114 : (Jvm.Cond.laysFinal "CertificateDeskModel" "CertificateDeskModel" "orderAuth" "[I") ∈ cd_tbl := tb_5 (List.mem_of_getElem? (i := 114) (by decide +kernel)) (by decide)
theorem kw_5_116 : (Jvm.Cond.laysFinal "CertificateDeskModel" "CertificateDeskModel" "orderCert" "[I") ∈ cd_tbl := tb_5 (List.mem_of_getElem? (i := 116) (by decide +kernel)) (by decide)
theorem kw_5_118 : (Jvm.Cond.lays "CertificateDeskModel" "CertificateDeskModel" "auths" "I") ∈ cd_tbl := tb_5 (List.mem_of_getElem? (i := 118) (by decide +kernel)) (by decide)
theorem kw_5_120 : (Jvm.Cond.laysFinal "CertificateDeskModel" "CertificateDeskModel" "authOf" "[I") ∈ cd_tbl := tb_5 (List.mem_of_getElem? (i := 120) (by decide +kernel)) (by decide)
theorem kw_5_122 : (Jvm.Cond.laysFinal "CertificateDeskModel" "CertificateDeskModel" "authName" "[C") ∈ cd_tbl := tb_5 (List.mem_of_getElem? (i := 122) (by decide +kernel)) (by decide)
theorem kw_5_124 : (Jvm.Cond.laysFinal "CertificateDeskModel" "CertificateDeskModel" "authLength" "[I") ∈ cd_tbl := tb_5 (List.mem_of_getElem? (i := 124) (by decide +kernel)) (by decide)
theorem kw_5_126 : (Jvm.Cond.laysFinal "CertificateDeskModel" "CertificateDeskModel" "authAt" "[I") ∈ cd_tbl := tb_5 (List.mem_of_getElem? (i := 126) (by decide +kernel)) (by decide)
theorem kw_5_128 : (Jvm.Cond.laysFinal "CertificateDeskModel" "CertificateDeskModel" "decided" "[I") ∈ cd_tbl := tb_5 (List.mem_of_getElem? (i := 128) (by decide +kernel)) (by decide)
theorem kw_5_130 : (Jvm.Cond.laysFinal "CertificateDeskModel" "CertificateDeskModel" "since" "[I") ∈ cd_tbl := tb_5 (List.mem_of_getElem? (i := 130) (by decide +kernel)) (by decide)
theorem kw_5_132 : (Jvm.Cond.laysFinal "CertificateDeskModel" "CertificateDeskModel" "trial" "[I") ∈ cd_tbl := tb_5 (List.mem_of_getElem? (i := 132) (by decide +kernel)) (by decide)
theorem kw_5_134 : (Jvm.Cond.lays "CertificateDeskModel" "CertificateDeskModel" "certs" "I") ∈ cd_tbl := tb_5 (List.mem_of_getElem? (i := 134) (by decide +kernel)) (by decide)
theorem kw_5_136 : (Jvm.Cond.laysFinal "CertificateDeskModel" "CertificateDeskModel" "certOrder" "[I") ∈ cd_tbl := tb_5 (List.mem_of_getElem? (i := 136) (by decide +kernel)) (by decide)
theorem kw_5_138 : (Jvm.Cond.laysFinal "CertificateDeskModel" "CertificateDeskModel" "certKey" "[I") ∈ cd_tbl := tb_5 (List.mem_of_getElem? (i := 138) (by decide +kernel)) (by decide)
theorem kw_5_140 : (Jvm.Cond.laysFinal "CertificateDeskModel" "CertificateDeskModel" "certAt" "[I") ∈ cd_tbl := tb_5 (List.mem_of_getElem? (i := 140) (by decide +kernel)) (by decide)
theorem kw_5_142 : (Jvm.Cond.laysFinal "CertificateDeskModel" "CertificateDeskModel" "certSeal" "[I") ∈ cd_tbl := tb_5 (List.mem_of_getElem? (i := 142) (by decide +kernel)) (by decide)
theorem kw_5_144 : (Jvm.Cond.laysFinal "CertificateDeskModel" "CertificateDeskModel" "reason" "[I") ∈ cd_tbl := tb_5 (List.mem_of_getElem? (i := 144) (by decide +kernel)) (by decide)
theorem kw_5_146 : (Jvm.Cond.laysFinal "CertificateDeskModel" "CertificateDeskModel" "there" "[Z") ∈ cd_tbl := tb_5 (List.mem_of_getElem? (i := 146) (by decide +kernel)) (by decide)
theorem kw_5_148 : (Jvm.Cond.laysFinal "CertificateDeskModel" "CertificateDeskModel" "posted" "[I") ∈ cd_tbl := tb_5 (List.mem_of_getElem? (i := 148) (by decide +kernel)) (by decide)
theorem kw_5_150 : (Jvm.Cond.lays "CertificateDeskModel" "CertificateDeskModel" "used" "I") ∈ cd_tbl := tb_5 (List.mem_of_getElem? (i := 150) (by decide +kernel)) (by decide)
theorem kw_5_152 : (Jvm.Cond.lays "CertificateDeskModel" "CertificateDeskModel" "cutAt" "I") ∈ cd_tbl := tb_5 (List.mem_of_getElem? (i := 152) (by decide +kernel)) (by decide)
theorem kw_5_154 : (Jvm.Cond.laysFinal "CertificateDeskModel" "CertificateDeskModel" "out" "[I") ∈ cd_tbl := tb_5 (List.mem_of_getElem? (i := 154) (by decide +kernel)) (by decide)
theorem kw_5_156 : (Jvm.Cond.lays "CertificateDeskModel" "CertificateDeskModel" "outs" "I") ∈ cd_tbl := tb_5 (List.mem_of_getElem? (i := 156) (by decide +kernel)) (by decide)
theorem kw_5_158 : (Jvm.Cond.laysFinal "CertificateDeskModel" "CertificateDeskModel" "nameAt" "[I") ∈ cd_tbl := tb_5 (List.mem_of_getElem? (i := 158) (by decide +kernel)) (by decide)
theorem kw_5_160 : (Jvm.Cond.laysFinal "CertificateDeskModel" "CertificateDeskModel" "nameAuth" "[I") ∈ cd_tbl := tb_5 (List.mem_of_getElem? (i := 160) (by decide +kernel)) (by decide)
theorem kw_5_17 : (Jvm.Cond.instantiable "CertificateDeskModel" (45 : Nat)) ∈ cd_tbl := tb_5 (List.mem_of_getElem? (i := 17) (by decide +kernel)) (by decide)
theorem kw_1_10 : (Jvm.Cond.initialized "CertificateDeskModel") ∈ cd_tbl := tb_1 (List.mem_of_getElem? (i := 10) (by decide +kernel)) (by decide)
theorem cl_11 : cd_CL 11 45 := ⟨_, rfl, List.forall_mem_cons.mpr ⟨kw_5_72, List.forall_mem_cons.mpr ⟨kw_5_74, List.forall_mem_cons.mpr ⟨kw_5_76, List.forall_mem_cons.mpr ⟨kw_5_78, List.forall_mem_cons.mpr ⟨kw_5_80, List.forall_mem_cons.mpr ⟨kw_5_82, List.forall_mem_cons.mpr ⟨kw_5_84, List.forall_mem_cons.mpr ⟨kw_5_86, List.forall_mem_cons.mpr ⟨kw_5_88, List.forall_mem_cons.mpr ⟨kw_5_90, List.forall_mem_cons.mpr ⟨kw_5_92, List.forall_mem_cons.mpr ⟨kw_5_94, List.forall_mem_cons.mpr ⟨kw_5_96, List.forall_mem_cons.mpr ⟨kw_5_98, List.forall_mem_cons.mpr ⟨kw_5_100, List.forall_mem_cons.mpr ⟨kw_5_102, List.forall_mem_cons.mpr ⟨kw_5_104, List.forall_mem_cons.mpr ⟨kw_5_106, List.forall_mem_cons.mpr ⟨kw_5_108, List.forall_mem_cons.mpr ⟨kw_5_110, List.forall_mem_cons.mpr ⟨kw_5_112, List.forall_mem_cons.mpr ⟨kw_5_114, List.forall_mem_cons.mpr ⟨kw_5_116, List.forall_mem_cons.mpr ⟨kw_5_118, List.forall_mem_cons.mpr ⟨kw_5_120, List.forall_mem_cons.mpr ⟨kw_5_122, List.forall_mem_cons.mpr ⟨kw_5_124, List.forall_mem_cons.mpr ⟨kw_5_126, List.forall_mem_cons.mpr ⟨kw_5_128, List.forall_mem_cons.mpr ⟨kw_5_130, List.forall_mem_cons.mpr ⟨kw_5_132, List.forall_mem_cons.mpr ⟨kw_5_134, List.forall_mem_cons.mpr ⟨kw_5_136, List.forall_mem_cons.mpr ⟨kw_5_138, List.forall_mem_cons.mpr ⟨kw_5_140, List.forall_mem_cons.mpr ⟨kw_5_142, List.forall_mem_cons.mpr ⟨kw_5_144, List.forall_mem_cons.mpr ⟨kw_5_146, List.forall_mem_cons.mpr ⟨kw_5_148, List.forall_mem_cons.mpr ⟨kw_5_150, List.forall_mem_cons.mpr ⟨kw_5_152, List.forall_mem_cons.mpr ⟨kw_5_154, List.forall_mem_cons.mpr ⟨kw_5_156, List.forall_mem_cons.mpr ⟨kw_5_158, List.forall_mem_cons.mpr ⟨kw_5_160, fun _ h => absurd h List.not_mem_nil⟩⟩⟩⟩⟩⟩⟩⟩⟩⟩⟩⟩⟩⟩⟩⟩⟩⟩⟩⟩⟩⟩⟩⟩⟩⟩⟩⟩⟩⟩⟩⟩⟩⟩⟩⟩⟩⟩⟩⟩⟩⟩⟩⟩⟩, by decide +kernel, by decide +kernel, kw_5_17, kw_1_10, by decide +kernel⟩
theorem fp_Mod_put_119 {X : cd_E} : cd_FP X m_Mod_put 119 11 7 .long := cd_FP.of cl_11 rfl rfl (by decide) kw_5_34 (Or.inl rfl) (Or.inl rfl)
theorem d_Mod_put_19 : decode prog_14_method_3_code 19 = .ok (.return_, 1) := by decide +kernel
theorem g_Mod_put {X : cd_E} {kc ks : Nat} {h : cd_H} {Q : Option Value → cd_H → Prop} {p1 : Int32} (F : cm_ok h) (H : Q none (cd_sl h 82 7 (((263 * (cd_l h 82 7)) + p1.toInt64) - ((263 * (cd_l h 82 7)) + p1.toInt64) / 2147483647 * 2147483647))) : cd_W X m_Mod_put kc ks 0 [some (.ref 82), some (.int p1)] [] h Q := by
  refine cd_aload_n (i := 0) (v := .ref 82) d_Mod_put_0 rfl rfl (cd_isr_ref _) ?_
  refine cd_ldc2 (v := 263) d_Mod_put_1 kw_5_205 ?_
  refine cd_aload_n (i := 0) (v := .ref 82) d_Mod_put_4 rfl rfl (cd_isr_ref _) ?_
  refine cd_get (v := .long (cd_l h 82 7)) d_Mod_put_5 fl_Mod_119 (cm_k82 F) rfl ?_
  refine cd_lmul d_Mod_put_8 ?_
  refine cd_iload_n (i := 1) d_Mod_put_9 rfl rfl ?_
  refine cd_i2l d_Mod_put_10 ?_
  refine cd_ladd d_Mod_put_11 ?_
  refine cd_ldc2 (v := 2147483647) d_Mod_put_12 kw_5_206 ?_
  refine cd_lrem d_Mod_put_15 (by decide) ?_
  refine cd_putL d_Mod_put_16 fp_Mod_put_119 (cm_k82 F) (by decide) ?_
  exact cd_vret d_Mod_put_19 rfl H

abbrev m_Mod_write : cd_M := (⟨"CertificateDeskModel", "write", "(C)Z"⟩, prog_14_method_12_code, 2, some .boolean, 1, 20)
theorem d_Mod_write_0 : decode prog_14_method_12_code 0 = .ok (.aload_n 0, 1) := by decide +kernel
theorem d_Mod_write_1 : decode prog_14_method_12_code 1 = .ok (.getfield 152, 3) := by decide +kernel
theorem kw_5_29 : (Jvm.Cond.fieldLink "CertificateDeskModel" (152 : Nat) "CertificateDeskModel" "size" "I") ∈ cd_tbl := tb_5 (List.mem_of_getElem? (i := 29) (by decide +kernel)) (by decide)
theorem fl_Mod_152 {X : cd_E} : cd_FL X "CertificateDeskModel" 152 11 2 .int := cd_FL.of rfl rfl (by decide) kw_5_29 (Or.inl rfl)
theorem d_Mod_write_4 : decode prog_14_method_12_code 4 = .ok (.bipush 96, 2) := by decide +kernel
theorem d_Mod_write_6 : decode prog_14_method_12_code 6 = .ok (.if_icmp .ge 15, 3) := by decide +kernel
theorem d_Mod_write_21 : decode prog_14_method_12_code 21 = .ok (.iconst 0, 1) := by decide +kernel
theorem d_Mod_write_22 : decode prog_14_method_12_code 22 = .ok (.ireturn, 1) := by decide +kernel
theorem d_Mod_write_9 : decode prog_14_method_12_code 9 = .ok (.iload_n 1, 1) := by decide +kernel
theorem d_Mod_write_10 : decode prog_14_method_12_code 10 = .ok (.bipush 32, 2) := by decide +kernel
theorem d_Mod_write_12 : decode prog_14_method_12_code 12 = .ok (.if_icmp .lt 9, 3) := by decide +kernel
theorem d_Mod_write_15 : decode prog_14_method_12_code 15 = .ok (.iload_n 1, 1) := by decide +kernel
theorem d_Mod_write_16 : decode prog_14_method_12_code 16 = .ok (.bipush 126, 2) := by decide +kernel
theorem d_Mod_write_18 : decode prog_14_method_12_code 18 = .ok (.if_icmp .le 5, 3) := by decide +kernel
theorem d_Mod_write_23 : decode prog_14_method_12_code 23 = .ok (.aload_n 0, 1) := by decide +kernel
theorem d_Mod_write_24 : decode prog_14_method_12_code 24 = .ok (.getfield 7, 3) := by decide +kernel
theorem kw_5_28 : (Jvm.Cond.fieldLink "CertificateDeskModel" (7 : Nat) "CertificateDeskModel" "text" "[C") ∈ cd_tbl := tb_5 (List.mem_of_getElem? (i := 28) (by decide +kernel)) (by decide)
theorem fl_Mod_7 {X : cd_E} : cd_FL X "CertificateDeskModel" 7 11 1 (.array .char) := cd_FL.of rfl rfl (by decide) kw_5_28 (Or.inl rfl)
theorem d_Mod_write_27 : decode prog_14_method_12_code 27 = .ok (.aload_n 0, 1) := by decide +kernel
theorem d_Mod_write_28 : decode prog_14_method_12_code 28 = .ok (.getfield 152, 3) := by decide +kernel
theorem d_Mod_write_31 : decode prog_14_method_12_code 31 = .ok (.iload_n 1, 1) := by decide +kernel
theorem d_Mod_write_32 : decode prog_14_method_12_code 32 = .ok (.castore, 1) := by decide +kernel
theorem d_Mod_write_33 : decode prog_14_method_12_code 33 = .ok (.aload_n 0, 1) := by decide +kernel
theorem d_Mod_write_34 : decode prog_14_method_12_code 34 = .ok (.dup, 1) := by decide +kernel
theorem d_Mod_write_35 : decode prog_14_method_12_code 35 = .ok (.getfield 152, 3) := by decide +kernel
theorem d_Mod_write_38 : decode prog_14_method_12_code 38 = .ok (.iconst 1, 1) := by decide +kernel
theorem d_Mod_write_39 : decode prog_14_method_12_code 39 = .ok (.iadd, 1) := by decide +kernel
theorem d_Mod_write_40 : decode prog_14_method_12_code 40 = .ok (.putfield 152, 3) := by decide +kernel
theorem fp_Mod_write_152 {X : cd_E} : cd_FP X m_Mod_write 152 11 2 .int := cd_FP.of cl_11 rfl rfl (by decide) kw_5_29 (Or.inl rfl) (Or.inl rfl)
theorem d_Mod_write_43 : decode prog_14_method_12_code 43 = .ok (.iconst 1, 1) := by decide +kernel
theorem d_Mod_write_44 : decode prog_14_method_12_code 44 = .ok (.ireturn, 1) := by decide +kernel
theorem g_Mod_write {X : cd_E} {kc ks : Nat} {h : cd_H} {Q : Option Value → cd_H → Prop} {p1 : Int32} (F : cm_ok h) (H : (((96 ≤ (cd_i h 82 2)) → (Q (some (.int 0)) h)) ∧ ((¬ 96 ≤ (cd_i h 82 2)) → ((((p1 < 32) → (Q (some (.int 0)) h)) ∧ ((¬ p1 < 32) → ((((p1 ≤ 126) → ((vp_in (cd_i h 82 2) 96) ∧ (Q (some (.int 1)) (cd_si (cd_si h 83 (cd_i h 82 2).toNatClampNeg (vp_nar .char p1)) 82 2 ((cd_i (cd_si h 83 (cd_i h 82 2).toNatClampNeg (vp_nar .char p1)) 82 2) + 1))))) ∧ ((¬ p1 ≤ 126) → (Q (some (.int 0)) h)))))))))) : cd_W X m_Mod_write kc ks 0 [some (.ref 82), some (.int p1)] [] h Q := by
  refine cd_aload_n (i := 0) (v := .ref 82) d_Mod_write_0 rfl rfl (cd_isr_ref _) ?_
  refine cd_get (v := .int (cd_i h 82 2)) d_Mod_write_1 fl_Mod_152 (cm_k82 F) rfl ?_
  refine cd_bipush (v := 96) d_Mod_write_4 (by decide) ?_
  refine cd_icmp_ge (tgt := 21) d_Mod_write_6 (by decide) (fun t1 => ?_) (fun t1 => ?_)
  · replace H := H.1 t1
    refine cd_iconst (v := 0) d_Mod_write_21 (by decide) ?_
    exact cd_iret d_Mod_write_22 rfl rfl H
  · replace H := H.2 t1
    refine cd_iload_n (i := 1) d_Mod_write_9 rfl rfl ?_
    refine cd_bipush (v := 32) d_Mod_write_10 (by decide) ?_
    refine cd_icmp_lt (tgt := 21) d_Mod_write_12 (by decide) (fun t2 => ?_) (fun t2 => ?_)
    · replace H := H.1 t2
      refine cd_iconst (v := 0) d_Mod_write_21 (by decide) ?_
      exact cd_iret d_Mod_write_22 rfl rfl H
    · replace H := H.2 t2
      refine cd_iload_n (i := 1) d_Mod_write_15 rfl rfl ?_
      refine cd_bipush (v := 126) d_Mod_write_16 (by decide) ?_
      refine cd_icmp_le (tgt := 23) d_Mod_write_18 (by decide) (fun t3 => ?_) (fun t3 => ?_)
      · replace H := H.1 t3
        refine cd_aload_n (i := 0) (v := .ref 82) d_Mod_write_23 rfl rfl (cd_isr_ref _) ?_
        refine cd_get (v := .ref 83) d_Mod_write_24 fl_Mod_7 (cm_k82 F) (congrArg va_rf (cm_r1 F)) ?_
        refine cd_aload_n (i := 0) (v := .ref 82) d_Mod_write_27 rfl rfl (cd_isr_ref _) ?_
        refine cd_get (v := .int (cd_i h 82 2)) d_Mod_write_28 fl_Mod_152 (cm_k82 F) rfl ?_
        refine cd_iload_n (i := 1) d_Mod_write_31 rfl rfl ?_
        obtain ⟨c4, H⟩ := H
        refine cd_casto (j := (cd_i h 82 2)) d_Mod_write_32 rfl (cm_k83 F) (by decide) c4 ?_
        refine cd_aload_n (i := 0) (v := .ref 82) d_Mod_write_33 rfl rfl (cd_isr_ref _) ?_
        refine cd_dup d_Mod_write_34 rfl ?_
        refine cd_get (v := .int (cd_i (cd_si h 83 (cd_i h 82 2).toNatClampNeg (vp_nar .char p1)) 82 2)) d_Mod_write_35 fl_Mod_152 (cm_k82 F) rfl ?_
        refine cd_iconst (v := 1) d_Mod_write_38 (by decide) ?_
        refine cd_iadd d_Mod_write_39 ?_
        refine cd_putI d_Mod_write_40 fp_Mod_write_152 (fun _ _ _ => rfl) (cm_k82 F) (by decide) rfl rfl ?_
        refine cd_iconst (v := 1) d_Mod_write_43 (by decide) ?_
        exact cd_iret d_Mod_write_44 rfl rfl H
      · replace H := H.2 t3
        refine cd_iconst (v := 0) d_Mod_write_21 (by decide) ?_
        exact cd_iret d_Mod_write_22 rfl rfl H

abbrev m_Mod_at : cd_M := (⟨"CertificateDeskModel", "at", "(I)C"⟩, prog_14_method_13_code, 2, some .char, 1, 20)
theorem d_Mod_at_0 : decode prog_14_method_13_code 0 = .ok (.iload_n 1, 1) := by decide +kernel
theorem d_Mod_at_1 : decode prog_14_method_13_code 1 = .ok (.ifCond .lt 20, 3) := by decide +kernel
theorem d_Mod_at_21 : decode prog_14_method_13_code 21 = .ok (.bipush 32, 2) := by decide +kernel
theorem d_Mod_at_23 : decode prog_14_method_13_code 23 = .ok (.ireturn, 1) := by decide +kernel
theorem d_Mod_at_4 : decode prog_14_method_13_code 4 = .ok (.iload_n 1, 1) := by decide +kernel
theorem d_Mod_at_5 : decode prog_14_method_13_code 5 = .ok (.aload_n 0, 1) := by decide +kernel
theorem d_Mod_at_6 : decode prog_14_method_13_code 6 = .ok (.getfield 152, 3) := by decide +kernel
theorem d_Mod_at_9 : decode prog_14_method_13_code 9 = .ok (.if_icmp .ge 12, 3) := by decide +kernel
theorem d_Mod_at_12 : decode prog_14_method_13_code 12 = .ok (.aload_n 0, 1) := by decide +kernel
theorem d_Mod_at_13 : decode prog_14_method_13_code 13 = .ok (.getfield 7, 3) := by decide +kernel
theorem d_Mod_at_16 : decode prog_14_method_13_code 16 = .ok (.iload_n 1, 1) := by decide +kernel
theorem d_Mod_at_17 : decode prog_14_method_13_code 17 = .ok (.caload, 1) := by decide +kernel
theorem d_Mod_at_18 : decode prog_14_method_13_code 18 = .ok (.goto 5, 3) := by decide +kernel
theorem g_Mod_at {X : cd_E} {kc ks : Nat} {h : cd_H} {Q : Option Value → cd_H → Prop} {p1 : Int32} (F : cm_ok h) (H : (((p1 < 0) → (Q (some (.int 32)) h)) ∧ ((¬ p1 < 0) → (((((cd_i h 82 2) ≤ p1) → (Q (some (.int 32)) h)) ∧ ((¬ (cd_i h 82 2) ≤ p1) → ((vp_in p1 96) ∧ ((narrow .char (.int (cd_i h 83 p1.toNatClampNeg)) = .int (cd_i h 83 p1.toNatClampNeg)) ∧ (Q (some (.int (cd_i h 83 p1.toNatClampNeg))) h))))))))) : cd_W X m_Mod_at kc ks 0 [some (.ref 82), some (.int p1)] [] h Q := by
  refine cd_iload_n (i := 1) d_Mod_at_0 rfl rfl ?_
  refine cd_if_lt (tgt := 21) d_Mod_at_1 (by decide) (fun t1 => ?_) (fun t1 => ?_)
  · replace H := H.1 t1
    refine cd_bipush (v := 32) d_Mod_at_21 (by decide) ?_
    exact cd_iret d_Mod_at_23 rfl rfl H
  · replace H := H.2 t1
    refine cd_iload_n (i := 1) d_Mod_at_4 rfl rfl ?_
    refine cd_aload_n (i := 0) (v := .ref 82) d_Mod_at_5 rfl rfl (cd_isr_ref _) ?_
    refine cd_get (v := .int (cd_i h 82 2)) d_Mod_at_6 fl_Mod_152 (cm_k82 F) rfl ?_
    refine cd_icmp_ge (tgt := 21) d_Mod_at_9 (by decide) (fun t2 => ?_) (fun t2 => ?_)
    · replace H := H.1 t2
      refine cd_bipush (v := 32) d_Mod_at_21 (by decide) ?_
      exact cd_iret d_Mod_at_23 rfl rfl H
    · replace H := H.2 t2
      refine cd_aload_n (i := 0) (v := .ref 82) d_Mod_at_12 rfl rfl (cd_isr_ref _) ?_
      refine cd_get (v := .ref 83) d_Mod_at_13 fl_Mod_7 (cm_k82 F) (congrArg va_rf (cm_r1 F)) ?_
      refine cd_iload_n (i := 1) d_Mod_at_16 rfl rfl ?_
      obtain ⟨c3, H⟩ := H
      refine cd_cald (j := p1) d_Mod_at_17 rfl (cm_k83 F) c3 ?_
      refine cd_goto (tgt := 23) d_Mod_at_18 (by decide) ?_
      obtain ⟨c4, H⟩ := H
      exact cd_iret d_Mod_at_23 rfl c4 H

abbrev m_Mod_digit : cd_M := (⟨"CertificateDeskModel", "digit", "(C)Z"⟩, prog_14_method_14_code, 1, some .boolean, 1, 20)
theorem d_Mod_digit_0 : decode prog_14_method_14_code 0 = .ok (.iload_n 0, 1) := by decide +kernel
theorem d_Mod_digit_1 : decode prog_14_method_14_code 1 = .ok (.bipush 48, 2) := by decide +kernel
theorem d_Mod_digit_3 : decode prog_14_method_14_code 3 = .ok (.if_icmp .lt 13, 3) := by decide +kernel
theorem d_Mod_digit_16 : decode prog_14_method_14_code 16 = .ok (.iconst 0, 1) := by decide +kernel
theorem d_Mod_digit_17 : decode prog_14_method_14_code 17 = .ok (.ireturn, 1) := by decide +kernel
theorem d_Mod_digit_6 : decode prog_14_method_14_code 6 = .ok (.iload_n 0, 1) := by decide +kernel
theorem d_Mod_digit_7 : decode prog_14_method_14_code 7 = .ok (.bipush 57, 2) := by decide +kernel
theorem d_Mod_digit_9 : decode prog_14_method_14_code 9 = .ok (.if_icmp .gt 7, 3) := by decide +kernel
theorem d_Mod_digit_12 : decode prog_14_method_14_code 12 = .ok (.iconst 1, 1) := by decide +kernel
theorem d_Mod_digit_13 : decode prog_14_method_14_code 13 = .ok (.goto 4, 3) := by decide +kernel
theorem g_Mod_digit {X : cd_E} {kc ks : Nat} {h : cd_H} {Q : Option Value → cd_H → Prop} {p1 : Int32} (F : cm_ok h) (H : (((p1 < 48) → (Q (some (.int 0)) h)) ∧ ((¬ p1 < 48) → ((((57 < p1) → (Q (some (.int 0)) h)) ∧ ((¬ 57 < p1) → (Q (some (.int 1)) h))))))) : cd_W X m_Mod_digit kc ks 0 [some (.int p1)] [] h Q := by
  refine cd_iload_n (i := 0) d_Mod_digit_0 rfl rfl ?_
  refine cd_bipush (v := 48) d_Mod_digit_1 (by decide) ?_
  refine cd_icmp_lt (tgt := 16) d_Mod_digit_3 (by decide) (fun t1 => ?_) (fun t1 => ?_)
  · replace H := H.1 t1
    refine cd_iconst (v := 0) d_Mod_digit_16 (by decide) ?_
    exact cd_iret d_Mod_digit_17 rfl rfl H
  · replace H := H.2 t1
    refine cd_iload_n (i := 0) d_Mod_digit_6 rfl rfl ?_
    refine cd_bipush (v := 57) d_Mod_digit_7 (by decide) ?_
    refine cd_icmp_gt (tgt := 16) d_Mod_digit_9 (by decide) (fun t2 => ?_) (fun t2 => ?_)
    · replace H := H.1 t2
      refine cd_iconst (v := 0) d_Mod_digit_16 (by decide) ?_
      exact cd_iret d_Mod_digit_17 rfl rfl H
    · replace H := H.2 t2
      refine cd_iconst (v := 1) d_Mod_digit_12 (by decide) ?_
      refine cd_goto (tgt := 17) d_Mod_digit_13 (by decide) ?_
      exact cd_iret d_Mod_digit_17 rfl rfl H

abbrev m_Mod_hasRoom : cd_M := (⟨"CertificateDeskModel", "hasRoom", "(I)Z"⟩, prog_14_method_29_code, 2, some .boolean, 1, 20)
theorem d_Mod_hasRoom_0 : decode prog_14_method_29_code 0 = .ok (.aload_n 0, 1) := by decide +kernel
theorem d_Mod_hasRoom_1 : decode prog_14_method_29_code 1 = .ok (.getfield 195, 3) := by decide +kernel
theorem kw_5_66 : (Jvm.Cond.fieldLink "CertificateDeskModel" (195 : Nat) "CertificateDeskModel" "used" "I") ∈ cd_tbl := tb_5 (List.mem_of_getElem? (i := 66) (by decide +kernel)) (by decide)
theorem fl_Mod_195 {X : cd_E} : cd_FL X "CertificateDeskModel" 195 11 39 .int := cd_FL.of rfl rfl (by decide) kw_5_66 (Or.inl rfl)
theorem d_Mod_hasRoom_4 : decode prog_14_method_29_code 4 = .ok (.iload_n 1, 1) := by decide +kernel
theorem d_Mod_hasRoom_5 : decode prog_14_method_29_code 5 = .ok (.iadd, 1) := by decide +kernel
theorem d_Mod_hasRoom_6 : decode prog_14_method_29_code 6 = .ok (.sipush 200, 3) := by decide +kernel
theorem d_Mod_hasRoom_9 : decode prog_14_method_29_code 9 = .ok (.if_icmp .gt 7, 3) := by decide +kernel
theorem d_Mod_hasRoom_16 : decode prog_14_method_29_code 16 = .ok (.iconst 0, 1) := by decide +kernel
theorem d_Mod_hasRoom_17 : decode prog_14_method_29_code 17 = .ok (.ireturn, 1) := by decide +kernel
theorem d_Mod_hasRoom_12 : decode prog_14_method_29_code 12 = .ok (.iconst 1, 1) := by decide +kernel
theorem d_Mod_hasRoom_13 : decode prog_14_method_29_code 13 = .ok (.goto 4, 3) := by decide +kernel
theorem g_Mod_hasRoom {X : cd_E} {kc ks : Nat} {h : cd_H} {Q : Option Value → cd_H → Prop} {p1 : Int32} (F : cm_ok h) (H : (((200 < ((cd_i h 82 39) + p1)) → (Q (some (.int 0)) h)) ∧ ((¬ 200 < ((cd_i h 82 39) + p1)) → (Q (some (.int 1)) h)))) : cd_W X m_Mod_hasRoom kc ks 0 [some (.ref 82), some (.int p1)] [] h Q := by
  refine cd_aload_n (i := 0) (v := .ref 82) d_Mod_hasRoom_0 rfl rfl (cd_isr_ref _) ?_
  refine cd_get (v := .int (cd_i h 82 39)) d_Mod_hasRoom_1 fl_Mod_195 (cm_k82 F) rfl ?_
  refine cd_iload_n (i := 1) d_Mod_hasRoom_4 rfl rfl ?_
  refine cd_iadd d_Mod_hasRoom_5 ?_
  refine cd_sipush (v := 200) d_Mod_hasRoom_6 (by decide) ?_
  refine cd_icmp_gt (tgt := 16) d_Mod_hasRoom_9 (by decide) (fun t1 => ?_) (fun t1 => ?_)
  · replace H := H.1 t1
    refine cd_iconst (v := 0) d_Mod_hasRoom_16 (by decide) ?_
    exact cd_iret d_Mod_hasRoom_17 rfl rfl H
  · replace H := H.2 t1
    refine cd_iconst (v := 1) d_Mod_hasRoom_12 (by decide) ?_
    refine cd_goto (tgt := 17) d_Mod_hasRoom_13 (by decide) ?_
    exact cd_iret d_Mod_hasRoom_17 rfl rfl H

abbrev m_Mod_cut : cd_M := (⟨"CertificateDeskModel", "cut", "(I)Z"⟩, prog_14_method_31_code, 2, some .boolean, 1, 20)
theorem d_Mod_cut_0 : decode prog_14_method_31_code 0 = .ok (.iload_n 1, 1) := by decide +kernel
theorem d_Mod_cut_1 : decode prog_14_method_31_code 1 = .ok (.ifCond .ge 5, 3) := by decide +kernel
theorem d_Mod_cut_6 : decode prog_14_method_31_code 6 = .ok (.aload_n 0, 1) := by decide +kernel
theorem d_Mod_cut_7 : decode prog_14_method_31_code 7 = .ok (.iload_n 1, 1) := by decide +kernel
theorem d_Mod_cut_8 : decode prog_14_method_31_code 8 = .ok (.putfield 96, 3) := by decide +kernel
theorem kw_5_67 : (Jvm.Cond.fieldLink "CertificateDeskModel" (96 : Nat) "CertificateDeskModel" "cutAt" "I") ∈ cd_tbl := tb_5 (List.mem_of_getElem? (i := 67) (by decide +kernel)) (by decide)
theorem fp_Mod_cut_96 {X : cd_E} : cd_FP X m_Mod_cut 96 11 40 .int := cd_FP.of cl_11 rfl rfl (by decide) kw_5_67 (Or.inl rfl) (Or.inl rfl)
theorem d_Mod_cut_11 : decode prog_14_method_31_code 11 = .ok (.iconst 1, 1) := by decide +kernel
theorem d_Mod_cut_12 : decode prog_14_method_31_code 12 = .ok (.ireturn, 1) := by decide +kernel
theorem d_Mod_cut_4 : decode prog_14_method_31_code 4 = .ok (.iconst 0, 1) := by decide +kernel
theorem d_Mod_cut_5 : decode prog_14_method_31_code 5 = .ok (.ireturn, 1) := by decide +kernel
theorem g_Mod_cut {X : cd_E} {kc ks : Nat} {h : cd_H} {Q : Option Value → cd_H → Prop} {p1 : Int32} (F : cm_ok h) (H : (((0 ≤ p1) → (Q (some (.int 1)) (cd_si h 82 40 p1))) ∧ ((¬ 0 ≤ p1) → (Q (some (.int 0)) h)))) : cd_W X m_Mod_cut kc ks 0 [some (.ref 82), some (.int p1)] [] h Q := by
  refine cd_iload_n (i := 1) d_Mod_cut_0 rfl rfl ?_
  refine cd_if_ge (tgt := 6) d_Mod_cut_1 (by decide) (fun t1 => ?_) (fun t1 => ?_)
  · replace H := H.1 t1
    refine cd_aload_n (i := 0) (v := .ref 82) d_Mod_cut_6 rfl rfl (cd_isr_ref _) ?_
    refine cd_iload_n (i := 1) d_Mod_cut_7 rfl rfl ?_
    refine cd_putI d_Mod_cut_8 fp_Mod_cut_96 (fun _ _ _ => rfl) (cm_k82 F) (by decide) rfl rfl ?_
    refine cd_iconst (v := 1) d_Mod_cut_11 (by decide) ?_
    exact cd_iret d_Mod_cut_12 rfl rfl H
  · replace H := H.2 t1
    refine cd_iconst (v := 0) d_Mod_cut_4 (by decide) ?_
    exact cd_iret d_Mod_cut_5 rfl rfl H

abbrev m_Mod_words : cd_M := (⟨"CertificateDeskModel", "words", "()I"⟩, prog_14_method_33_code, 1, some .int, 1, 20)
theorem d_Mod_words_0 : decode prog_14_method_33_code 0 = .ok (.aload_n 0, 1) := by decide +kernel
theorem d_Mod_words_1 : decode prog_14_method_33_code 1 = .ok (.getfield 195, 3) := by decide +kernel
theorem d_Mod_words_4 : decode prog_14_method_33_code 4 = .ok (.ireturn, 1) := by decide +kernel
theorem g_Mod_words {X : cd_E} {kc ks : Nat} {h : cd_H} {Q : Option Value → cd_H → Prop}  (F : cm_ok h) (H : Q (some (.int (cd_i h 82 39))) h) : cd_W X m_Mod_words kc ks 0 [some (.ref 82)] [] h Q := by
  refine cd_aload_n (i := 0) (v := .ref 82) d_Mod_words_0 rfl rfl (cd_isr_ref _) ?_
  refine cd_get (v := .int (cd_i h 82 39)) d_Mod_words_1 fl_Mod_195 (cm_k82 F) rfl ?_
  exact cd_iret d_Mod_words_4 rfl rfl H

abbrev m_Mod_nonce : cd_M := (⟨"CertificateDeskModel", "nonce", "()I"⟩, prog_14_method_34_code, 1, some .int, 1, 20)
theorem d_Mod_nonce_0 : decode prog_14_method_34_code 0 = .ok (.aload_n 0, 1) := by decide +kernel
theorem d_Mod_nonce_1 : decode prog_14_method_34_code 1 = .ok (.dup, 1) := by decide +kernel
theorem d_Mod_nonce_2 : decode prog_14_method_34_code 2 = .ok (.getfield 204, 3) := by decide +kernel
theorem kw_5_38 : (Jvm.Cond.fieldLink "CertificateDeskModel" (204 : Nat) "CertificateDeskModel" "given" "I") ∈ cd_tbl := tb_5 (List.mem_of_getElem? (i := 38) (by decide +kernel)) (by decide)
theorem fl_Mod_204 {X : cd_E} : cd_FL X "CertificateDeskModel" 204 11 11 .int := cd_FL.of rfl rfl (by decide) kw_5_38 (Or.inl rfl)
theorem d_Mod_nonce_5 : decode prog_14_method_34_code 5 = .ok (.iconst 1, 1) := by decide +kernel
theorem d_Mod_nonce_6 : decode prog_14_method_34_code 6 = .ok (.iadd, 1) := by decide +kernel
theorem d_Mod_nonce_7 : decode prog_14_method_34_code 7 = .ok (.putfield 204, 3) := by decide +kernel
theorem fp_Mod_nonce_204 {X : cd_E} : cd_FP X m_Mod_nonce 204 11 11 .int := cd_FP.of cl_11 rfl rfl (by decide) kw_5_38 (Or.inl rfl) (Or.inl rfl)
theorem d_Mod_nonce_10 : decode prog_14_method_34_code 10 = .ok (.sipush 1000, 3) := by decide +kernel
theorem d_Mod_nonce_13 : decode prog_14_method_34_code 13 = .ok (.aload_n 0, 1) := by decide +kernel
theorem d_Mod_nonce_14 : decode prog_14_method_34_code 14 = .ok (.getfield 201, 3) := by decide +kernel
theorem kw_5_37 : (Jvm.Cond.fieldLink "CertificateDeskModel" (201 : Nat) "CertificateDeskModel" "crashes" "I") ∈ cd_tbl := tb_5 (List.mem_of_getElem? (i := 37) (by decide +kernel)) (by decide)
theorem fl_Mod_201 {X : cd_E} : cd_FL X "CertificateDeskModel" 201 11 10 .int := cd_FL.of rfl rfl (by decide) kw_5_37 (Or.inl rfl)
theorem d_Mod_nonce_17 : decode prog_14_method_34_code 17 = .ok (.imul, 1) := by decide +kernel
theorem d_Mod_nonce_18 : decode prog_14_method_34_code 18 = .ok (.aload_n 0, 1) := by decide +kernel
theorem d_Mod_nonce_19 : decode prog_14_method_34_code 19 = .ok (.getfield 204, 3) := by decide +kernel
theorem d_Mod_nonce_22 : decode prog_14_method_34_code 22 = .ok (.iadd, 1) := by decide +kernel
theorem d_Mod_nonce_23 : decode prog_14_method_34_code 23 = .ok (.iconst 1, 1) := by decide +kernel
theorem d_Mod_nonce_24 : decode prog_14_method_34_code 24 = .ok (.isub, 1) := by decide +kernel
theorem d_Mod_nonce_25 : decode prog_14_method_34_code 25 = .ok (.ireturn, 1) := by decide +kernel
theorem g_Mod_nonce {X : cd_E} {kc ks : Nat} {h : cd_H} {Q : Option Value → cd_H → Prop}  (F : cm_ok h) (H : Q (some (.int (((1000 * (cd_i (cd_si h 82 11 ((cd_i h 82 11) + 1)) 82 10)) + (cd_i (cd_si h 82 11 ((cd_i h 82 11) + 1)) 82 11)) - 1))) (cd_si h 82 11 ((cd_i h 82 11) + 1))) : cd_W X m_Mod_nonce kc ks 0 [some (.ref 82)] [] h Q := by
  refine cd_aload_n (i := 0) (v := .ref 82) d_Mod_nonce_0 rfl rfl (cd_isr_ref _) ?_
  refine cd_dup d_Mod_nonce_1 rfl ?_
  refine cd_get (v := .int (cd_i h 82 11)) d_Mod_nonce_2 fl_Mod_204 (cm_k82 F) rfl ?_
  refine cd_iconst (v := 1) d_Mod_nonce_5 (by decide) ?_
  refine cd_iadd d_Mod_nonce_6 ?_
  refine cd_putI d_Mod_nonce_7 fp_Mod_nonce_204 (fun _ _ _ => rfl) (cm_k82 F) (by decide) rfl rfl ?_
  refine cd_sipush (v := 1000) d_Mod_nonce_10 (by decide) ?_
  refine cd_aload_n (i := 0) (v := .ref 82) d_Mod_nonce_13 rfl rfl (cd_isr_ref _) ?_
  refine cd_get (v := .int (cd_i (cd_si h 82 11 ((cd_i h 82 11) + 1)) 82 10)) d_Mod_nonce_14 fl_Mod_201 (cm_k82 F) rfl ?_
  refine cd_imul d_Mod_nonce_17 ?_
  refine cd_aload_n (i := 0) (v := .ref 82) d_Mod_nonce_18 rfl rfl (cd_isr_ref _) ?_
  refine cd_get (v := .int (cd_i (cd_si h 82 11 ((cd_i h 82 11) + 1)) 82 11)) d_Mod_nonce_19 fl_Mod_204 (cm_k82 F) rfl ?_
  refine cd_iadd d_Mod_nonce_22 ?_
  refine cd_iconst (v := 1) d_Mod_nonce_23 (by decide) ?_
  refine cd_isub d_Mod_nonce_24 ?_
  exact cd_iret d_Mod_nonce_25 rfl rfl H

abbrev m_Mod_good : cd_M := (⟨"CertificateDeskModel", "good", "(I)Z"⟩, prog_14_method_35_code, 3, some .boolean, 1, 20)
theorem d_Mod_good_0 : decode prog_14_method_35_code 0 = .ok (.iload_n 1, 1) := by decide +kernel
theorem d_Mod_good_1 : decode prog_14_method_35_code 1 = .ok (.sipush 1000, 3) := by decide +kernel
theorem d_Mod_good_4 : decode prog_14_method_35_code 4 = .ok (.aload_n 0, 1) := by decide +kernel
theorem d_Mod_good_5 : decode prog_14_method_35_code 5 = .ok (.getfield 201, 3) := by decide +kernel
theorem d_Mod_good_8 : decode prog_14_method_35_code 8 = .ok (.imul, 1) := by decide +kernel
theorem d_Mod_good_9 : decode prog_14_method_35_code 9 = .ok (.isub, 1) := by decide +kernel
theorem d_Mod_good_10 : decode prog_14_method_35_code 10 = .ok (.istore_n 2, 1) := by decide +kernel
theorem d_Mod_good_11 : decode prog_14_method_35_code 11 = .ok (.iload_n 1, 1) := by decide +kernel
theorem d_Mod_good_12 : decode prog_14_method_35_code 12 = .ok (.ifCond .lt 28, 3) := by decide +kernel
theorem d_Mod_good_40 : decode prog_14_method_35_code 40 = .ok (.iconst 0, 1) := by decide +kernel
theorem d_Mod_good_41 : decode prog_14_method_35_code 41 = .ok (.ireturn, 1) := by decide +kernel
theorem d_Mod_good_15 : decode prog_14_method_35_code 15 = .ok (.iload_n 2, 1) := by decide +kernel
theorem d_Mod_good_16 : decode prog_14_method_35_code 16 = .ok (.ifCond .lt 24, 3) := by decide +kernel
theorem d_Mod_good_19 : decode prog_14_method_35_code 19 = .ok (.iload_n 2, 1) := by decide +kernel
theorem d_Mod_good_20 : decode prog_14_method_35_code 20 = .ok (.aload_n 0, 1) := by decide +kernel
theorem d_Mod_good_21 : decode prog_14_method_35_code 21 = .ok (.getfield 204, 3) := by decide +kernel
theorem d_Mod_good_24 : decode prog_14_method_35_code 24 = .ok (.if_icmp .ge 16, 3) := by decide +kernel
theorem d_Mod_good_27 : decode prog_14_method_35_code 27 = .ok (.aload_n 0, 1) := by decide +kernel
theorem d_Mod_good_28 : decode prog_14_method_35_code 28 = .ok (.getfield 29, 3) := by decide +kernel
theorem kw_5_39 : (Jvm.Cond.fieldLink "CertificateDeskModel" (29 : Nat) "CertificateDeskModel" "spent" "[Z") ∈ cd_tbl := tb_5 (List.mem_of_getElem? (i := 39) (by decide +kernel)) (by decide)
theorem fl_Mod_29 {X : cd_E} : cd_FL X "CertificateDeskModel" 29 11 12 (.array .boolean) := cd_FL.of rfl rfl (by decide) kw_5_39 (Or.inl rfl)
theorem d_Mod_good_31 : decode prog_14_method_35_code 31 = .ok (.iload_n 2, 1) := by decide +kernel
theorem d_Mod_good_32 : decode prog_14_method_35_code 32 = .ok (.baload, 1) := by decide +kernel
theorem d_Mod_good_33 : decode prog_14_method_35_code 33 = .ok (.ifCond .ne 7, 3) := by decide +kernel
theorem d_Mod_good_36 : decode prog_14_method_35_code 36 = .ok (.iconst 1, 1) := by decide +kernel
theorem d_Mod_good_37 : decode prog_14_method_35_code 37 = .ok (.goto 4, 3) := by decide +kernel
theorem g_Mod_good {X : cd_E} {kc ks : Nat} {h : cd_H} {Q : Option Value → cd_H → Prop} {p1 : Int32} (F : cm_ok h) (H : (((p1 < 0) → (Q (some (.int 0)) h)) ∧ ((¬ p1 < 0) → (((((p1 - (1000 * (cd_i h 82 10))) < 0) → (Q (some (.int 0)) h)) ∧ ((¬ (p1 - (1000 * (cd_i h 82 10))) < 0) → (((((cd_i h 82 11) ≤ (p1 - (1000 * (cd_i h 82 10)))) → (Q (some (.int 0)) h)) ∧ ((¬ (cd_i h 82 11) ≤ (p1 - (1000 * (cd_i h 82 10)))) → ((vp_in (p1 - (1000 * (cd_i h 82 10))) 512) ∧ ((((¬ (cd_i h 89 (p1 - (1000 * (cd_i h 82 10))).toNatClampNeg) = 0) → (Q (some (.int 0)) h)) ∧ (((cd_i h 89 (p1 - (1000 * (cd_i h 82 10))).toNatClampNeg) = 0) → (Q (some (.int 1)) h)))))))))))))) : cd_W X m_Mod_good kc ks 0 [some (.ref 82), some (.int p1), none] [] h Q := by
  refine cd_iload_n (i := 1) d_Mod_good_0 rfl rfl ?_
  refine cd_sipush (v := 1000) d_Mod_good_1 (by decide) ?_
  refine cd_aload_n (i := 0) (v := .ref 82) d_Mod_good_4 rfl rfl (cd_isr_ref _) ?_
  refine cd_get (v := .int (cd_i h 82 10)) d_Mod_good_5 fl_Mod_201 (cm_k82 F) rfl ?_
  refine cd_imul d_Mod_good_8 ?_
  refine cd_isub d_Mod_good_9 ?_
  refine cd_istore_n (i := 2) d_Mod_good_10 rfl (by decide) ?_
  show cd_W X m_Mod_good kc ks 11 [some (.ref 82), some (.int p1), some (.int (p1 - (1000 * (cd_i h 82 10))))] [] h Q
  refine cd_iload_n (i := 1) d_Mod_good_11 rfl rfl ?_
  refine cd_if_lt (tgt := 40) d_Mod_good_12 (by decide) (fun t1 => ?_) (fun t1 => ?_)
  · replace H := H.1 t1
    refine cd_iconst (v := 0) d_Mod_good_40 (by decide) ?_
    exact cd_iret d_Mod_good_41 rfl rfl H
  · replace H := H.2 t1
    refine cd_iload_n (i := 2) d_Mod_good_15 rfl rfl ?_
    refine cd_if_lt (tgt := 40) d_Mod_good_16 (by decide) (fun t2 => ?_) (fun t2 => ?_)
    · replace H := H.1 t2
      refine cd_iconst (v := 0) d_Mod_good_40 (by decide) ?_
      exact cd_iret d_Mod_good_41 rfl rfl H
    · replace H := H.2 t2
      refine cd_iload_n (i := 2) d_Mod_good_19 rfl rfl ?_
      refine cd_aload_n (i := 0) (v := .ref 82) d_Mod_good_20 rfl rfl (cd_isr_ref _) ?_
      refine cd_get (v := .int (cd_i h 82 11)) d_Mod_good_21 fl_Mod_204 (cm_k82 F) rfl ?_
      refine cd_icmp_ge (tgt := 40) d_Mod_good_24 (by decide) (fun t3 => ?_) (fun t3 => ?_)
      · replace H := H.1 t3
        refine cd_iconst (v := 0) d_Mod_good_40 (by decide) ?_
        exact cd_iret d_Mod_good_41 rfl rfl H
      · replace H := H.2 t3
        refine cd_aload_n (i := 0) (v := .ref 82) d_Mod_good_27 rfl rfl (cd_isr_ref _) ?_
        refine cd_get (v := .ref 89) d_Mod_good_28 fl_Mod_29 (cm_k82 F) (congrArg va_rf (cm_r12 F)) ?_
        refine cd_iload_n (i := 2) d_Mod_good_31 rfl rfl ?_
        obtain ⟨c4, H⟩ := H
        refine cd_zald (j := (p1 - (1000 * (cd_i h 82 10)))) d_Mod_good_32 rfl (cm_k89 F) c4 ?_
        refine cd_if_ne (tgt := 40) d_Mod_good_33 (by decide) (fun t5 => ?_) (fun t5 => ?_)
        · replace H := H.1 t5
          refine cd_iconst (v := 0) d_Mod_good_40 (by decide) ?_
          exact cd_iret d_Mod_good_41 rfl rfl H
        · replace H := H.2 t5
          refine cd_iconst (v := 1) d_Mod_good_36 (by decide) ?_
          refine cd_goto (tgt := 41) d_Mod_good_37 (by decide) ?_
          exact cd_iret d_Mod_good_41 rfl rfl H

abbrev m_Mod_state : cd_M := (⟨"CertificateDeskModel", "state", "(I)I"⟩, prog_14_method_27_code, 4, some .int, 1, 20)
theorem d_Mod_state_0 : decode prog_14_method_27_code 0 = .ok (.iload_n 1, 1) := by decide +kernel
theorem d_Mod_state_1 : decode prog_14_method_27_code 1 = .ok (.ifCond .lt 11, 3) := by decide +kernel
theorem d_Mod_state_12 : decode prog_14_method_27_code 12 = .ok (.iconst (-1), 1) := by decide +kernel
theorem d_Mod_state_13 : decode prog_14_method_27_code 13 = .ok (.ireturn, 1) := by decide +kernel
theorem d_Mod_state_4 : decode prog_14_method_27_code 4 = .ok (.iload_n 1, 1) := by decide +kernel
theorem d_Mod_state_5 : decode prog_14_method_27_code 5 = .ok (.aload_n 0, 1) := by decide +kernel
theorem d_Mod_state_6 : decode prog_14_method_27_code 6 = .ok (.getfield 183, 3) := by decide +kernel
theorem kw_5_50 : (Jvm.Cond.fieldLink "CertificateDeskModel" (183 : Nat) "CertificateDeskModel" "auths" "I") ∈ cd_tbl := tb_5 (List.mem_of_getElem? (i := 50) (by decide +kernel)) (by decide)
theorem fl_Mod_183 {X : cd_E} : cd_FL X "CertificateDeskModel" 183 11 23 .int := cd_FL.of rfl rfl (by decide) kw_5_50 (Or.inl rfl)
theorem d_Mod_state_9 : decode prog_14_method_27_code 9 = .ok (.if_icmp .lt 5, 3) := by decide +kernel
theorem d_Mod_state_14 : decode prog_14_method_27_code 14 = .ok (.iload_n 1, 1) := by decide +kernel
theorem d_Mod_state_15 : decode prog_14_method_27_code 15 = .ok (.istore_n 2, 1) := by decide +kernel
theorem d_Mod_state_16 : decode prog_14_method_27_code 16 = .ok (.aload_n 0, 1) := by decide +kernel
theorem d_Mod_state_17 : decode prog_14_method_27_code 17 = .ok (.getfield 36, 3) := by decide +kernel
theorem kw_5_43 : (Jvm.Cond.fieldLink "CertificateDeskModel" (36 : Nat) "CertificateDeskModel" "closed" "[Z") ∈ cd_tbl := tb_5 (List.mem_of_getElem? (i := 43) (by decide +kernel)) (by decide)
theorem fl_Mod_36 {X : cd_E} : cd_FL X "CertificateDeskModel" 36 11 16 (.array .boolean) := cd_FL.of rfl rfl (by decide) kw_5_43 (Or.inl rfl)
theorem d_Mod_state_20 : decode prog_14_method_27_code 20 = .ok (.aload_n 0, 1) := by decide +kernel
theorem d_Mod_state_21 : decode prog_14_method_27_code 21 = .ok (.getfield 54, 3) := by decide +kernel
theorem kw_5_51 : (Jvm.Cond.fieldLink "CertificateDeskModel" (54 : Nat) "CertificateDeskModel" "authOf" "[I") ∈ cd_tbl := tb_5 (List.mem_of_getElem? (i := 51) (by decide +kernel)) (by decide)
theorem fl_Mod_54 {X : cd_E} : cd_FL X "CertificateDeskModel" 54 11 24 (.array .int) := cd_FL.of rfl rfl (by decide) kw_5_51 (Or.inl rfl)
theorem d_Mod_state_24 : decode prog_14_method_27_code 24 = .ok (.iload_n 2, 1) := by decide +kernel
theorem d_Mod_state_25 : decode prog_14_method_27_code 25 = .ok (.iaload, 1) := by decide +kernel
theorem d_Mod_state_26 : decode prog_14_method_27_code 26 = .ok (.baload, 1) := by decide +kernel
theorem d_Mod_state_27 : decode prog_14_method_27_code 27 = .ok (.ifCond .ne 13, 3) := by decide +kernel
theorem d_Mod_state_40 : decode prog_14_method_27_code 40 = .ok (.iconst 3, 1) := by decide +kernel
theorem d_Mod_state_41 : decode prog_14_method_27_code 41 = .ok (.ireturn, 1) := by decide +kernel
theorem d_Mod_state_30 : decode prog_14_method_27_code 30 = .ok (.aload_n 0, 1) := by decide +kernel
theorem d_Mod_state_31 : decode prog_14_method_27_code 31 = .ok (.getfield 66, 3) := by decide +kernel
theorem kw_5_55 : (Jvm.Cond.fieldLink "CertificateDeskModel" (66 : Nat) "CertificateDeskModel" "decided" "[I") ∈ cd_tbl := tb_5 (List.mem_of_getElem? (i := 55) (by decide +kernel)) (by decide)
theorem fl_Mod_66 {X : cd_E} : cd_FL X "CertificateDeskModel" 66 11 28 (.array .int) := cd_FL.of rfl rfl (by decide) kw_5_55 (Or.inl rfl)
theorem d_Mod_state_34 : decode prog_14_method_27_code 34 = .ok (.iload_n 2, 1) := by decide +kernel
theorem d_Mod_state_35 : decode prog_14_method_27_code 35 = .ok (.iaload, 1) := by decide +kernel
theorem d_Mod_state_36 : decode prog_14_method_27_code 36 = .ok (.iconst 2, 1) := by decide +kernel
theorem d_Mod_state_37 : decode prog_14_method_27_code 37 = .ok (.if_icmp .ne 5, 3) := by decide +kernel
theorem d_Mod_state_42 : decode prog_14_method_27_code 42 = .ok (.aload_n 0, 1) := by decide +kernel
theorem d_Mod_state_43 : decode prog_14_method_27_code 43 = .ok (.getfield 186, 3) := by decide +kernel
theorem kw_5_36 : (Jvm.Cond.fieldLink "CertificateDeskModel" (186 : Nat) "CertificateDeskModel" "now" "I") ∈ cd_tbl := tb_5 (List.mem_of_getElem? (i := 36) (by decide +kernel)) (by decide)
theorem fl_Mod_186 {X : cd_E} : cd_FL X "CertificateDeskModel" 186 11 9 .int := cd_FL.of rfl rfl (by decide) kw_5_36 (Or.inl rfl)
theorem d_Mod_state_46 : decode prog_14_method_27_code 46 = .ok (.aload_n 0, 1) := by decide +kernel
theorem d_Mod_state_47 : decode prog_14_method_27_code 47 = .ok (.getfield 66, 3) := by decide +kernel
theorem d_Mod_state_50 : decode prog_14_method_27_code 50 = .ok (.iload_n 2, 1) := by decide +kernel
theorem d_Mod_state_51 : decode prog_14_method_27_code 51 = .ok (.iaload, 1) := by decide +kernel
theorem d_Mod_state_52 : decode prog_14_method_27_code 52 = .ok (.iconst 1, 1) := by decide +kernel
theorem d_Mod_state_53 : decode prog_14_method_27_code 53 = .ok (.if_icmp .ne 12, 3) := by decide +kernel
theorem d_Mod_state_65 : decode prog_14_method_27_code 65 = .ok (.aload_n 0, 1) := by decide +kernel
theorem d_Mod_state_66 : decode prog_14_method_27_code 66 = .ok (.getfield 63, 3) := by decide +kernel
theorem kw_5_54 : (Jvm.Cond.fieldLink "CertificateDeskModel" (63 : Nat) "CertificateDeskModel" "authAt" "[I") ∈ cd_tbl := tb_5 (List.mem_of_getElem? (i := 54) (by decide +kernel)) (by decide)
theorem fl_Mod_63 {X : cd_E} : cd_FL X "CertificateDeskModel" 63 11 27 (.array .int) := cd_FL.of rfl rfl (by decide) kw_5_54 (Or.inl rfl)
theorem d_Mod_state_69 : decode prog_14_method_27_code 69 = .ok (.iload_n 2, 1) := by decide +kernel
theorem d_Mod_state_70 : decode prog_14_method_27_code 70 = .ok (.iaload, 1) := by decide +kernel
theorem d_Mod_state_71 : decode prog_14_method_27_code 71 = .ok (.isub, 1) := by decide +kernel
theorem d_Mod_state_72 : decode prog_14_method_27_code 72 = .ok (.istore_n 3, 1) := by decide +kernel
theorem d_Mod_state_73 : decode prog_14_method_27_code 73 = .ok (.iload_n 3, 1) := by decide +kernel
theorem d_Mod_state_74 : decode prog_14_method_27_code 74 = .ok (.aload_n 0, 1) := by decide +kernel
theorem d_Mod_state_75 : decode prog_14_method_27_code 75 = .ok (.getfield 109, 3) := by decide +kernel
theorem kw_5_27 : (Jvm.Cond.fieldLink "CertificateDeskModel" (109 : Nat) "CertificateDeskModel" "life" "I") ∈ cd_tbl := tb_5 (List.mem_of_getElem? (i := 27) (by decide +kernel)) (by decide)
theorem fl_Mod_109 {X : cd_E} : cd_FL X "CertificateDeskModel" 109 11 0 .int := cd_FL.of rfl rfl (by decide) kw_5_27 (Or.inl rfl)
theorem d_Mod_state_78 : decode prog_14_method_27_code 78 = .ok (.if_icmp .lt 7, 3) := by decide +kernel
theorem d_Mod_state_85 : decode prog_14_method_27_code 85 = .ok (.aload_n 0, 1) := by decide +kernel
theorem d_Mod_state_86 : decode prog_14_method_27_code 86 = .ok (.getfield 66, 3) := by decide +kernel
theorem d_Mod_state_89 : decode prog_14_method_27_code 89 = .ok (.iload_n 2, 1) := by decide +kernel
theorem d_Mod_state_90 : decode prog_14_method_27_code 90 = .ok (.iaload, 1) := by decide +kernel
theorem d_Mod_state_91 : decode prog_14_method_27_code 91 = .ok (.iconst 1, 1) := by decide +kernel
theorem d_Mod_state_92 : decode prog_14_method_27_code 92 = .ok (.if_icmp .ne 7, 3) := by decide +kernel
theorem d_Mod_state_99 : decode prog_14_method_27_code 99 = .ok (.aload_n 0, 1) := by decide +kernel
theorem d_Mod_state_100 : decode prog_14_method_27_code 100 = .ok (.getfield 72, 3) := by decide +kernel
theorem kw_5_57 : (Jvm.Cond.fieldLink "CertificateDeskModel" (72 : Nat) "CertificateDeskModel" "trial" "[I") ∈ cd_tbl := tb_5 (List.mem_of_getElem? (i := 57) (by decide +kernel)) (by decide)
theorem fl_Mod_72 {X : cd_E} : cd_FL X "CertificateDeskModel" 72 11 30 (.array .int) := cd_FL.of rfl rfl (by decide) kw_5_57 (Or.inl rfl)
theorem d_Mod_state_103 : decode prog_14_method_27_code 103 = .ok (.iload_n 2, 1) := by decide +kernel
theorem d_Mod_state_104 : decode prog_14_method_27_code 104 = .ok (.iaload, 1) := by decide +kernel
theorem d_Mod_state_105 : decode prog_14_method_27_code 105 = .ok (.ifCond .le 7, 3) := by decide +kernel
theorem d_Mod_state_112 : decode prog_14_method_27_code 112 = .ok (.iconst 0, 1) := by decide +kernel
theorem d_Mod_state_113 : decode prog_14_method_27_code 113 = .ok (.ireturn, 1) := by decide +kernel
theorem d_Mod_state_108 : decode prog_14_method_27_code 108 = .ok (.iconst 1, 1) := by decide +kernel
theorem d_Mod_state_109 : decode prog_14_method_27_code 109 = .ok (.goto 4, 3) := by decide +kernel
theorem d_Mod_state_81 : decode prog_14_method_27_code 81 = .ok (.iconst 4, 1) := by decide +kernel
theorem d_Mod_state_82 : decode prog_14_method_27_code 82 = .ok (.goto 31, 3) := by decide +kernel
theorem d_Mod_state_56 : decode prog_14_method_27_code 56 = .ok (.aload_n 0, 1) := by decide +kernel
theorem d_Mod_state_57 : decode prog_14_method_27_code 57 = .ok (.getfield 69, 3) := by decide +kernel
theorem kw_5_56 : (Jvm.Cond.fieldLink "CertificateDeskModel" (69 : Nat) "CertificateDeskModel" "since" "[I") ∈ cd_tbl := tb_5 (List.mem_of_getElem? (i := 56) (by decide +kernel)) (by decide)
theorem fl_Mod_69 {X : cd_E} : cd_FL X "CertificateDeskModel" 69 11 29 (.array .int) := cd_FL.of rfl rfl (by decide) kw_5_56 (Or.inl rfl)
theorem d_Mod_state_60 : decode prog_14_method_27_code 60 = .ok (.iload_n 2, 1) := by decide +kernel
theorem d_Mod_state_61 : decode prog_14_method_27_code 61 = .ok (.iaload, 1) := by decide +kernel
theorem d_Mod_state_62 : decode prog_14_method_27_code 62 = .ok (.goto 9, 3) := by decide +kernel
theorem d_Mod_state_95 : decode prog_14_method_27_code 95 = .ok (.iconst 2, 1) := by decide +kernel
theorem d_Mod_state_96 : decode prog_14_method_27_code 96 = .ok (.goto 17, 3) := by decide +kernel
theorem g_Mod_state {X : cd_E} {kc ks : Nat} {h : cd_H} {Q : Option Value → cd_H → Prop} {p1 : Int32} (F : cm_ok h) (H : (((p1 < 0) → (Q (some (.int (-1))) h)) ∧ ((¬ p1 < 0) → ((((p1 < (cd_i h 82 23)) → ((vp_in p1 24) ∧ ((vp_in (cd_i h 97 p1.toNatClampNeg) 4) ∧ ((((¬ (cd_i h 91 (cd_i h 97 p1.toNatClampNeg).toNatClampNeg) = 0) → (Q (some (.int 3)) h)) ∧ (((cd_i h 91 (cd_i h 97 p1.toNatClampNeg).toNatClampNeg) = 0) → ((((¬ (cd_i h 101 p1.toNatClampNeg) = 2) → ((((¬ (cd_i h 101 p1.toNatClampNeg) = 1) → ((((((cd_i h 82 9) - (cd_i h 100 p1.toNatClampNeg)) < (cd_i h 82 0)) → (((((cd_i h 103 p1.toNatClampNeg) ≤ 0) → (Q (some (.int 0)) h)) ∧ ((¬ (cd_i h 103 p1.toNatClampNeg) ≤ 0) → (Q (some (.int 1)) h))))) ∧ ((¬ ((cd_i h 82 9) - (cd_i h 100 p1.toNatClampNeg)) < (cd_i h 82 0)) → (Q (some (.int 4)) h))))) ∧ (((cd_i h 101 p1.toNatClampNeg) = 1) → ((((((cd_i h 82 9) - (cd_i h 102 p1.toNatClampNeg)) < (cd_i h 82 0)) → (Q (some (.int 2)) h)) ∧ ((¬ ((cd_i h 82 9) - (cd_i h 102 p1.toNatClampNeg)) < (cd_i h 82 0)) → (Q (some (.int 4)) h)))))))) ∧ (((cd_i h 101 p1.toNatClampNeg) = 2) → (Q (some (.int 3)) h)))))))))) ∧ ((¬ p1 < (cd_i h 82 23)) → (Q (some (.int (-1))) h))))))) : cd_W X m_Mod_state kc ks 0 [some (.ref 82), some (.int p1), none, none] [] h Q := by
  refine cd_iload_n (i := 1) d_Mod_state_0 rfl rfl ?_
  refine cd_if_lt (tgt := 12) d_Mod_state_1 (by decide) (fun t1 => ?_) (fun t1 => ?_)
  · replace H := H.1 t1
    refine cd_iconst (v := (-1)) d_Mod_state_12 (by decide) ?_
    exact cd_iret d_Mod_state_13 rfl rfl H
  · replace H := H.2 t1
    refine cd_iload_n (i := 1) d_Mod_state_4 rfl rfl ?_
    refine cd_aload_n (i := 0) (v := .ref 82) d_Mod_state_5 rfl rfl (cd_isr_ref _) ?_
    refine cd_get (v := .int (cd_i h 82 23)) d_Mod_state_6 fl_Mod_183 (cm_k82 F) rfl ?_
    refine cd_icmp_lt (tgt := 14) d_Mod_state_9 (by decide) (fun t2 => ?_) (fun t2 => ?_)
    · replace H := H.1 t2
      refine cd_iload_n (i := 1) d_Mod_state_14 rfl rfl ?_
      refine cd_istore_n (i := 2) d_Mod_state_15 rfl (by decide) ?_
      show cd_W X m_Mod_state kc ks 16 [some (.ref 82), some (.int p1), some (.int p1), none] [] h Q
      refine cd_aload_n (i := 0) (v := .ref 82) d_Mod_state_16 rfl rfl (cd_isr_ref _) ?_
      refine cd_get (v := .ref 91) d_Mod_state_17 fl_Mod_36 (cm_k82 F) (congrArg va_rf (cm_r16 F)) ?_
      refine cd_aload_n (i := 0) (v := .ref 82) d_Mod_state_20 rfl rfl (cd_isr_ref _) ?_
      refine cd_get (v := .ref 97) d_Mod_state_21 fl_Mod_54 (cm_k82 F) (congrArg va_rf (cm_r24 F)) ?_
      refine cd_iload_n (i := 2) d_Mod_state_24 rfl rfl ?_
      obtain ⟨c3, H⟩ := H
      refine cd_iald (j := p1) d_Mod_state_25 rfl (cm_k97 F) c3 ?_
      obtain ⟨c4, H⟩ := H
      refine cd_zald (j := (cd_i h 97 p1.toNatClampNeg)) d_Mod_state_26 rfl (cm_k91 F) c4 ?_
      refine cd_if_ne (tgt := 40) d_Mod_state_27 (by decide) (fun t5 => ?_) (fun t5 => ?_)
      · replace H := H.1 t5
        refine cd_iconst (v := 3) d_Mod_state_40 (by decide) ?_
        exact cd_iret d_Mod_state_41 rfl rfl H
      · replace H := H.2 t5
        refine cd_aload_n (i := 0) (v := .ref 82) d_Mod_state_30 rfl rfl (cd_isr_ref _) ?_
        refine cd_get (v := .ref 101) d_Mod_state_31 fl_Mod_66 (cm_k82 F) (congrArg va_rf (cm_r28 F)) ?_
        refine cd_iload_n (i := 2) d_Mod_state_34 rfl rfl ?_
        refine cd_iald (j := p1) d_Mod_state_35 rfl (cm_k101 F) c3 ?_
        refine cd_iconst (v := 2) d_Mod_state_36 (by decide) ?_
        refine cd_icmp_ne (tgt := 42) d_Mod_state_37 (by decide) (fun t6 => ?_) (fun t6 => ?_)
        · replace H := H.1 t6
          refine cd_aload_n (i := 0) (v := .ref 82) d_Mod_state_42 rfl rfl (cd_isr_ref _) ?_
          refine cd_get (v := .int (cd_i h 82 9)) d_Mod_state_43 fl_Mod_186 (cm_k82 F) rfl ?_
          refine cd_aload_n (i := 0) (v := .ref 82) d_Mod_state_46 rfl rfl (cd_isr_ref _) ?_
          refine cd_get (v := .ref 101) d_Mod_state_47 fl_Mod_66 (cm_k82 F) (congrArg va_rf (cm_r28 F)) ?_
          refine cd_iload_n (i := 2) d_Mod_state_50 rfl rfl ?_
          refine cd_iald (j := p1) d_Mod_state_51 rfl (cm_k101 F) c3 ?_
          refine cd_iconst (v := 1) d_Mod_state_52 (by decide) ?_
          refine cd_icmp_ne (tgt := 65) d_Mod_state_53 (by decide) (fun t7 => ?_) (fun t7 => ?_)
          · replace H := H.1 t7
            refine cd_aload_n (i := 0) (v := .ref 82) d_Mod_state_65 rfl rfl (cd_isr_ref _) ?_
            refine cd_get (v := .ref 100) d_Mod_state_66 fl_Mod_63 (cm_k82 F) (congrArg va_rf (cm_r27 F)) ?_
            refine cd_iload_n (i := 2) d_Mod_state_69 rfl rfl ?_
            refine cd_iald (j := p1) d_Mod_state_70 rfl (cm_k100 F) c3 ?_
            refine cd_isub d_Mod_state_71 ?_
            refine cd_istore_n (i := 3) d_Mod_state_72 rfl (by decide) ?_
            show cd_W X m_Mod_state kc ks 73 [some (.ref 82), some (.int p1), some (.int p1), some (.int ((cd_i h 82 9) - (cd_i h 100 p1.toNatClampNeg)))] [] h Q
            refine cd_iload_n (i := 3) d_Mod_state_73 rfl rfl ?_
            refine cd_aload_n (i := 0) (v := .ref 82) d_Mod_state_74 rfl rfl (cd_isr_ref _) ?_
            refine cd_get (v := .int (cd_i h 82 0)) d_Mod_state_75 fl_Mod_109 (cm_k82 F) rfl ?_
            refine cd_icmp_lt (tgt := 85) d_Mod_state_78 (by decide) (fun t8 => ?_) (fun t8 => ?_)
            · replace H := H.1 t8
              refine cd_aload_n (i := 0) (v := .ref 82) d_Mod_state_85 rfl rfl (cd_isr_ref _) ?_
              refine cd_get (v := .ref 101) d_Mod_state_86 fl_Mod_66 (cm_k82 F) (congrArg va_rf (cm_r28 F)) ?_
              refine cd_iload_n (i := 2) d_Mod_state_89 rfl rfl ?_
              refine cd_iald (j := p1) d_Mod_state_90 rfl (cm_k101 F) c3 ?_
              refine cd_iconst (v := 1) d_Mod_state_91 (by decide) ?_
              refine cd_icmp_ne (tgt := 99) d_Mod_state_92 (by decide) (fun _ => ?_) (fun hc => absurd hc t7)
              refine cd_aload_n (i := 0) (v := .ref 82) d_Mod_state_99 rfl rfl (cd_isr_ref _) ?_
              refine cd_get (v := .ref 103) d_Mod_state_100 fl_Mod_72 (cm_k82 F) (congrArg va_rf (cm_r30 F)) ?_
              refine cd_iload_n (i := 2) d_Mod_state_103 rfl rfl ?_
              refine cd_iald (j := p1) d_Mod_state_104 rfl (cm_k103 F) c3 ?_
              refine cd_if_le (tgt := 112) d_Mod_state_105 (by decide) (fun t9 => ?_) (fun t9 => ?_)
              · replace H := H.1 t9
                refine cd_iconst (v := 0) d_Mod_state_112 (by decide) ?_
                exact cd_iret d_Mod_state_113 rfl rfl H
              · replace H := H.2 t9
                refine cd_iconst (v := 1) d_Mod_state_108 (by decide) ?_
                refine cd_goto (tgt := 113) d_Mod_state_109 (by decide) ?_
                exact cd_iret d_Mod_state_113 rfl rfl H
            · replace H := H.2 t8
              refine cd_iconst (v := 4) d_Mod_state_81 (by decide) ?_
              refine cd_goto (tgt := 113) d_Mod_state_82 (by decide) ?_
              exact cd_iret d_Mod_state_113 rfl rfl H
          · replace H := H.2 t7
            refine cd_aload_n (i := 0) (v := .ref 82) d_Mod_state_56 rfl rfl (cd_isr_ref _) ?_
            refine cd_get (v := .ref 102) d_Mod_state_57 fl_Mod_69 (cm_k82 F) (congrArg va_rf (cm_r29 F)) ?_
            refine cd_iload_n (i := 2) d_Mod_state_60 rfl rfl ?_
            refine cd_iald (j := p1) d_Mod_state_61 rfl (cm_k102 F) c3 ?_
            refine cd_goto (tgt := 71) d_Mod_state_62 (by decide) ?_
            refine cd_isub d_Mod_state_71 ?_
            refine cd_istore_n (i := 3) d_Mod_state_72 rfl (by decide) ?_
            show cd_W X m_Mod_state kc ks 73 [some (.ref 82), some (.int p1), some (.int p1), some (.int ((cd_i h 82 9) - (cd_i h 102 p1.toNatClampNeg)))] [] h Q
            refine cd_iload_n (i := 3) d_Mod_state_73 rfl rfl ?_
            refine cd_aload_n (i := 0) (v := .ref 82) d_Mod_state_74 rfl rfl (cd_isr_ref _) ?_
            refine cd_get (v := .int (cd_i h 82 0)) d_Mod_state_75 fl_Mod_109 (cm_k82 F) rfl ?_
            refine cd_icmp_lt (tgt := 85) d_Mod_state_78 (by decide) (fun t10 => ?_) (fun t10 => ?_)
            · replace H := H.1 t10
              refine cd_aload_n (i := 0) (v := .ref 82) d_Mod_state_85 rfl rfl (cd_isr_ref _) ?_
              refine cd_get (v := .ref 101) d_Mod_state_86 fl_Mod_66 (cm_k82 F) (congrArg va_rf (cm_r28 F)) ?_
              refine cd_iload_n (i := 2) d_Mod_state_89 rfl rfl ?_
              refine cd_iald (j := p1) d_Mod_state_90 rfl (cm_k101 F) c3 ?_
              refine cd_iconst (v := 1) d_Mod_state_91 (by decide) ?_
              refine cd_icmp_ne (tgt := 99) d_Mod_state_92 (by decide) (fun hc => absurd t7 hc) (fun _ => ?_)
              refine cd_iconst (v := 2) d_Mod_state_95 (by decide) ?_
              refine cd_goto (tgt := 113) d_Mod_state_96 (by decide) ?_
              exact cd_iret d_Mod_state_113 rfl rfl H
            · replace H := H.2 t10
              refine cd_iconst (v := 4) d_Mod_state_81 (by decide) ?_
              refine cd_goto (tgt := 113) d_Mod_state_82 (by decide) ?_
              exact cd_iret d_Mod_state_113 rfl rfl H
        · replace H := H.2 t6
          refine cd_iconst (v := 3) d_Mod_state_40 (by decide) ?_
          exact cd_iret d_Mod_state_41 rfl rfl H
    · replace H := H.2 t2
      refine cd_iconst (v := (-1)) d_Mod_state_12 (by decide) ?_
      exact cd_iret d_Mod_state_13 rfl rfl H

abbrev m_Mod_signature : cd_M := (⟨"CertificateDeskModel", "signature", "()I"⟩, prog_14_method_47_code, 1, some .int, 1, 20)
theorem d_Mod_signature_0 : decode prog_14_method_47_code 0 = .ok (.aload_n 0, 1) := by decide +kernel
theorem d_Mod_signature_1 : decode prog_14_method_47_code 1 = .ok (.getfield 215, 3) := by decide +kernel
theorem kw_5_40 : (Jvm.Cond.fieldLink "CertificateDeskModel" (215 : Nat) "CertificateDeskModel" "signed" "I") ∈ cd_tbl := tb_5 (List.mem_of_getElem? (i := 40) (by decide +kernel)) (by decide)
theorem fl_Mod_215 {X : cd_E} : cd_FL X "CertificateDeskModel" 215 11 13 .int := cd_FL.of rfl rfl (by decide) kw_5_40 (Or.inl rfl)
theorem d_Mod_signature_4 : decode prog_14_method_47_code 4 = .ok (.ireturn, 1) := by decide +kernel
theorem g_Mod_signature {X : cd_E} {kc ks : Nat} {h : cd_H} {Q : Option Value → cd_H → Prop}  (F : cm_ok h) (H : Q (some (.int (cd_i h 82 13))) h) : cd_W X m_Mod_signature kc ks 0 [some (.ref 82)] [] h Q := by
  refine cd_aload_n (i := 0) (v := .ref 82) d_Mod_signature_0 rfl rfl (cd_isr_ref _) ?_
  refine cd_get (v := .int (cd_i h 82 13)) d_Mod_signature_1 fl_Mod_215 (cm_k82 F) rfl ?_
  exact cd_iret d_Mod_signature_4 rfl rfl H

abbrev m_Mod_isSpot : cd_M := (⟨"CertificateDeskModel", "isSpot", "(II)Z"⟩, prog_14_method_49_code, 3, some .boolean, 1, 20)
theorem d_Mod_isSpot_0 : decode prog_14_method_49_code 0 = .ok (.iload_n 1, 1) := by decide +kernel
theorem d_Mod_isSpot_1 : decode prog_14_method_49_code 1 = .ok (.ifCond .lt 24, 3) := by decide +kernel
theorem d_Mod_isSpot_25 : decode prog_14_method_49_code 25 = .ok (.iconst 0, 1) := by decide +kernel
theorem d_Mod_isSpot_26 : decode prog_14_method_49_code 26 = .ok (.ireturn, 1) := by decide +kernel
theorem d_Mod_isSpot_4 : decode prog_14_method_49_code 4 = .ok (.iload_n 1, 1) := by decide +kernel
theorem d_Mod_isSpot_5 : decode prog_14_method_49_code 5 = .ok (.iconst 1, 1) := by decide +kernel
theorem d_Mod_isSpot_6 : decode prog_14_method_49_code 6 = .ok (.if_icmp .gt 19, 3) := by decide +kernel
theorem d_Mod_isSpot_9 : decode prog_14_method_49_code 9 = .ok (.iload_n 2, 1) := by decide +kernel
theorem d_Mod_isSpot_10 : decode prog_14_method_49_code 10 = .ok (.ifCond .lt 15, 3) := by decide +kernel
theorem d_Mod_isSpot_13 : decode prog_14_method_49_code 13 = .ok (.iload_n 2, 1) := by decide +kernel
theorem d_Mod_isSpot_14 : decode prog_14_method_49_code 14 = .ok (.aload_n 0, 1) := by decide +kernel
theorem d_Mod_isSpot_15 : decode prog_14_method_49_code 15 = .ok (.getfield 183, 3) := by decide +kernel
theorem d_Mod_isSpot_18 : decode prog_14_method_49_code 18 = .ok (.if_icmp .ge 7, 3) := by decide +kernel
theorem d_Mod_isSpot_21 : decode prog_14_method_49_code 21 = .ok (.iconst 1, 1) := by decide +kernel
theorem d_Mod_isSpot_22 : decode prog_14_method_49_code 22 = .ok (.goto 4, 3) := by decide +kernel
theorem g_Mod_isSpot {X : cd_E} {kc ks : Nat} {h : cd_H} {Q : Option Value → cd_H → Prop} {p1 : Int32} {p2 : Int32} (F : cm_ok h) (H : (((p1 < 0) → (Q (some (.int 0)) h)) ∧ ((¬ p1 < 0) → ((((1 < p1) → (Q (some (.int 0)) h)) ∧ ((¬ 1 < p1) → ((((p2 < 0) → (Q (some (.int 0)) h)) ∧ ((¬ p2 < 0) → (((((cd_i h 82 23) ≤ p2) → (Q (some (.int 0)) h)) ∧ ((¬ (cd_i h 82 23) ≤ p2) → (Q (some (.int 1)) h))))))))))))) : cd_W X m_Mod_isSpot kc ks 0 [some (.ref 82), some (.int p1), some (.int p2)] [] h Q := by
  refine cd_iload_n (i := 1) d_Mod_isSpot_0 rfl rfl ?_
  refine cd_if_lt (tgt := 25) d_Mod_isSpot_1 (by decide) (fun t1 => ?_) (fun t1 => ?_)
  · replace H := H.1 t1
    refine cd_iconst (v := 0) d_Mod_isSpot_25 (by decide) ?_
    exact cd_iret d_Mod_isSpot_26 rfl rfl H
  · replace H := H.2 t1
    refine cd_iload_n (i := 1) d_Mod_isSpot_4 rfl rfl ?_
    refine cd_iconst (v := 1) d_Mod_isSpot_5 (by decide) ?_
    refine cd_icmp_gt (tgt := 25) d_Mod_isSpot_6 (by decide) (fun t2 => ?_) (fun t2 => ?_)
    · replace H := H.1 t2
      refine cd_iconst (v := 0) d_Mod_isSpot_25 (by decide) ?_
      exact cd_iret d_Mod_isSpot_26 rfl rfl H
    · replace H := H.2 t2
      refine cd_iload_n (i := 2) d_Mod_isSpot_9 rfl rfl ?_
      refine cd_if_lt (tgt := 25) d_Mod_isSpot_10 (by decide) (fun t3 => ?_) (fun t3 => ?_)
      · replace H := H.1 t3
        refine cd_iconst (v := 0) d_Mod_isSpot_25 (by decide) ?_
        exact cd_iret d_Mod_isSpot_26 rfl rfl H
      · replace H := H.2 t3
        refine cd_iload_n (i := 2) d_Mod_isSpot_13 rfl rfl ?_
        refine cd_aload_n (i := 0) (v := .ref 82) d_Mod_isSpot_14 rfl rfl (cd_isr_ref _) ?_
        refine cd_get (v := .int (cd_i h 82 23)) d_Mod_isSpot_15 fl_Mod_183 (cm_k82 F) rfl ?_
        refine cd_icmp_ge (tgt := 25) d_Mod_isSpot_18 (by decide) (fun t4 => ?_) (fun t4 => ?_)
        · replace H := H.1 t4
          refine cd_iconst (v := 0) d_Mod_isSpot_25 (by decide) ?_
          exact cd_iret d_Mod_isSpot_26 rfl rfl H
        · replace H := H.2 t4
          refine cd_iconst (v := 1) d_Mod_isSpot_21 (by decide) ?_
          refine cd_goto (tgt := 26) d_Mod_isSpot_22 (by decide) ?_
          exact cd_iret d_Mod_isSpot_26 rfl rfl H

abbrev m_Mod_account : cd_M := (⟨"CertificateDeskModel", "account", "(I)I"⟩, prog_14_method_57_code, 2, some .int, 1, 20)
theorem d_Mod_account_0 : decode prog_14_method_57_code 0 = .ok (.iload_n 1, 1) := by decide +kernel
theorem d_Mod_account_1 : decode prog_14_method_57_code 1 = .ok (.ifCond .lt 11, 3) := by decide +kernel
theorem d_Mod_account_12 : decode prog_14_method_57_code 12 = .ok (.iconst (-1), 1) := by decide +kernel
theorem d_Mod_account_13 : decode prog_14_method_57_code 13 = .ok (.goto 25, 3) := by decide +kernel
theorem d_Mod_account_38 : decode prog_14_method_57_code 38 = .ok (.ireturn, 1) := by decide +kernel
theorem d_Mod_account_4 : decode prog_14_method_57_code 4 = .ok (.iload_n 1, 1) := by decide +kernel
theorem d_Mod_account_5 : decode prog_14_method_57_code 5 = .ok (.aload_n 0, 1) := by decide +kernel
theorem d_Mod_account_6 : decode prog_14_method_57_code 6 = .ok (.getfield 222, 3) := by decide +kernel
theorem kw_5_41 : (Jvm.Cond.fieldLink "CertificateDeskModel" (222 : Nat) "CertificateDeskModel" "accounts" "I") ∈ cd_tbl := tb_5 (List.mem_of_getElem? (i := 41) (by decide +kernel)) (by decide)
theorem fl_Mod_222 {X : cd_E} : cd_FL X "CertificateDeskModel" 222 11 14 .int := cd_FL.of rfl rfl (by decide) kw_5_41 (Or.inl rfl)
theorem d_Mod_account_9 : decode prog_14_method_57_code 9 = .ok (.if_icmp .lt 7, 3) := by decide +kernel
theorem d_Mod_account_16 : decode prog_14_method_57_code 16 = .ok (.aload_n 0, 1) := by decide +kernel
theorem d_Mod_account_17 : decode prog_14_method_57_code 17 = .ok (.getfield 33, 3) := by decide +kernel
theorem kw_5_42 : (Jvm.Cond.fieldLink "CertificateDeskModel" (33 : Nat) "CertificateDeskModel" "accountKey" "[I") ∈ cd_tbl := tb_5 (List.mem_of_getElem? (i := 42) (by decide +kernel)) (by decide)
theorem fl_Mod_33 {X : cd_E} : cd_FL X "CertificateDeskModel" 33 11 15 (.array .int) := cd_FL.of rfl rfl (by decide) kw_5_42 (Or.inl rfl)
theorem d_Mod_account_20 : decode prog_14_method_57_code 20 = .ok (.iload_n 1, 1) := by decide +kernel
theorem d_Mod_account_21 : decode prog_14_method_57_code 21 = .ok (.iaload, 1) := by decide +kernel
theorem d_Mod_account_22 : decode prog_14_method_57_code 22 = .ok (.aload_n 0, 1) := by decide +kernel
theorem d_Mod_account_23 : decode prog_14_method_57_code 23 = .ok (.getfield 36, 3) := by decide +kernel
theorem d_Mod_account_26 : decode prog_14_method_57_code 26 = .ok (.iload_n 1, 1) := by decide +kernel
theorem d_Mod_account_27 : decode prog_14_method_57_code 27 = .ok (.baload, 1) := by decide +kernel
theorem d_Mod_account_28 : decode prog_14_method_57_code 28 = .ok (.ifCond .eq 8, 3) := by decide +kernel
theorem d_Mod_account_36 : decode prog_14_method_57_code 36 = .ok (.iconst 0, 1) := by decide +kernel
theorem d_Mod_account_37 : decode prog_14_method_57_code 37 = .ok (.iadd, 1) := by decide +kernel
theorem d_Mod_account_31 : decode prog_14_method_57_code 31 = .ok (.bipush 8, 2) := by decide +kernel
theorem d_Mod_account_33 : decode prog_14_method_57_code 33 = .ok (.goto 4, 3) := by decide +kernel
theorem g_Mod_account {X : cd_E} {kc ks : Nat} {h : cd_H} {Q : Option Value → cd_H → Prop} {p1 : Int32} (F : cm_ok h) (H : (((p1 < 0) → (Q (some (.int (-1))) h)) ∧ ((¬ p1 < 0) → ((((p1 < (cd_i h 82 14)) → ((vp_in p1 4) ∧ (((((cd_i h 91 p1.toNatClampNeg) = 0) → (Q (some (.int ((cd_i h 90 p1.toNatClampNeg) + 0))) h)) ∧ ((¬ (cd_i h 91 p1.toNatClampNeg) = 0) → (Q (some (.int ((cd_i h 90 p1.toNatClampNeg) + 8))) h)))))) ∧ ((¬ p1 < (cd_i h 82 14)) → (Q (some (.int (-1))) h))))))) : cd_W X m_Mod_account kc ks 0 [some (.ref 82), some (.int p1)] [] h Q := by
  refine cd_iload_n (i := 1) d_Mod_account_0 rfl rfl ?_
  refine cd_if_lt (tgt := 12) d_Mod_account_1 (by decide) (fun t1 => ?_) (fun t1 => ?_)
  · replace H := H.1 t1
    refine cd_iconst (v := (-1)) d_Mod_account_12 (by decide) ?_
    refine cd_goto (tgt := 38) d_Mod_account_13 (by decide) ?_
    exact cd_iret d_Mod_account_38 rfl rfl H
  · replace H := H.2 t1
    refine cd_iload_n (i := 1) d_Mod_account_4 rfl rfl ?_
    refine cd_aload_n (i := 0) (v := .ref 82) d_Mod_account_5 rfl rfl (cd_isr_ref _) ?_
    refine cd_get (v := .int (cd_i h 82 14)) d_Mod_account_6 fl_Mod_222 (cm_k82 F) rfl ?_
    refine cd_icmp_lt (tgt := 16) d_Mod_account_9 (by decide) (fun t2 => ?_) (fun t2 => ?_)
    · replace H := H.1 t2
      refine cd_aload_n (i := 0) (v := .ref 82) d_Mod_account_16 rfl rfl (cd_isr_ref _) ?_
      refine cd_get (v := .ref 90) d_Mod_account_17 fl_Mod_33 (cm_k82 F) (congrArg va_rf (cm_r15 F)) ?_
      refine cd_iload_n (i := 1) d_Mod_account_20 rfl rfl ?_
      obtain ⟨c3, H⟩ := H
      refine cd_iald (j := p1) d_Mod_account_21 rfl (cm_k90 F) c3 ?_
      refine cd_aload_n (i := 0) (v := .ref 82) d_Mod_account_22 rfl rfl (cd_isr_ref _) ?_
      refine cd_get (v := .ref 91) d_Mod_account_23 fl_Mod_36 (cm_k82 F) (congrArg va_rf (cm_r16 F)) ?_
      refine cd_iload_n (i := 1) d_Mod_account_26 rfl rfl ?_
      refine cd_zald (j := p1) d_Mod_account_27 rfl (cm_k91 F) c3 ?_
      refine cd_if_eq (tgt := 36) d_Mod_account_28 (by decide) (fun t4 => ?_) (fun t4 => ?_)
      · replace H := H.1 t4
        refine cd_iconst (v := 0) d_Mod_account_36 (by decide) ?_
        refine cd_iadd d_Mod_account_37 ?_
        exact cd_iret d_Mod_account_38 rfl rfl H
      · replace H := H.2 t4
        refine cd_bipush (v := 8) d_Mod_account_31 (by decide) ?_
        refine cd_goto (tgt := 37) d_Mod_account_33 (by decide) ?_
        refine cd_iadd d_Mod_account_37 ?_
        exact cd_iret d_Mod_account_38 rfl rfl H
    · replace H := H.2 t2
      refine cd_iconst (v := (-1)) d_Mod_account_12 (by decide) ?_
      refine cd_goto (tgt := 38) d_Mod_account_13 (by decide) ?_
      exact cd_iret d_Mod_account_38 rfl rfl H

abbrev m_Mod_authorization : cd_M := (⟨"CertificateDeskModel", "authorization", "(II)I"⟩, prog_14_method_58_code, 3, some .int, 1, 20)
theorem d_Mod_authorization_0 : decode prog_14_method_58_code 0 = .ok (.iload_n 1, 1) := by decide +kernel
theorem d_Mod_authorization_1 : decode prog_14_method_58_code 1 = .ok (.ifCond .lt 25, 3) := by decide +kernel
theorem d_Mod_authorization_26 : decode prog_14_method_58_code 26 = .ok (.iconst (-1), 1) := by decide +kernel
theorem d_Mod_authorization_27 : decode prog_14_method_58_code 27 = .ok (.goto 13, 3) := by decide +kernel
theorem d_Mod_authorization_40 : decode prog_14_method_58_code 40 = .ok (.ireturn, 1) := by decide +kernel
theorem d_Mod_authorization_4 : decode prog_14_method_58_code 4 = .ok (.iload_n 1, 1) := by decide +kernel
theorem d_Mod_authorization_5 : decode prog_14_method_58_code 5 = .ok (.aload_n 0, 1) := by decide +kernel
theorem d_Mod_authorization_6 : decode prog_14_method_58_code 6 = .ok (.getfield 189, 3) := by decide +kernel
theorem kw_5_44 : (Jvm.Cond.fieldLink "CertificateDeskModel" (189 : Nat) "CertificateDeskModel" "orders" "I") ∈ cd_tbl := tb_5 (List.mem_of_getElem? (i := 44) (by decide +kernel)) (by decide)
theorem fl_Mod_189 {X : cd_E} : cd_FL X "CertificateDeskModel" 189 11 17 .int := cd_FL.of rfl rfl (by decide) kw_5_44 (Or.inl rfl)
theorem d_Mod_authorization_9 : decode prog_14_method_58_code 9 = .ok (.if_icmp .ge 17, 3) := by decide +kernel
theorem d_Mod_authorization_12 : decode prog_14_method_58_code 12 = .ok (.iload_n 2, 1) := by decide +kernel
theorem d_Mod_authorization_13 : decode prog_14_method_58_code 13 = .ok (.ifCond .lt 13, 3) := by decide +kernel
theorem d_Mod_authorization_16 : decode prog_14_method_58_code 16 = .ok (.iload_n 2, 1) := by decide +kernel
theorem d_Mod_authorization_17 : decode prog_14_method_58_code 17 = .ok (.aload_n 0, 1) := by decide +kernel
theorem d_Mod_authorization_18 : decode prog_14_method_58_code 18 = .ok (.getfield 45, 3) := by decide +kernel
theorem kw_5_47 : (Jvm.Cond.fieldLink "CertificateDeskModel" (45 : Nat) "CertificateDeskModel" "orderNames" "[I") ∈ cd_tbl := tb_5 (List.mem_of_getElem? (i := 47) (by decide +kernel)) (by decide)
theorem fl_Mod_45 {X : cd_E} : cd_FL X "CertificateDeskModel" 45 11 20 (.array .int) := cd_FL.of rfl rfl (by decide) kw_5_47 (Or.inl rfl)
theorem d_Mod_authorization_21 : decode prog_14_method_58_code 21 = .ok (.iload_n 1, 1) := by decide +kernel
theorem d_Mod_authorization_22 : decode prog_14_method_58_code 22 = .ok (.iaload, 1) := by decide +kernel
theorem d_Mod_authorization_23 : decode prog_14_method_58_code 23 = .ok (.if_icmp .lt 7, 3) := by decide +kernel
theorem d_Mod_authorization_30 : decode prog_14_method_58_code 30 = .ok (.aload_n 0, 1) := by decide +kernel
theorem d_Mod_authorization_31 : decode prog_14_method_58_code 31 = .ok (.getfield 48, 3) := by decide +kernel
theorem kw_5_48 : (Jvm.Cond.fieldLink "CertificateDeskModel" (48 : Nat) "CertificateDeskModel" "orderAuth" "[I") ∈ cd_tbl := tb_5 (List.mem_of_getElem? (i := 48) (by decide +kernel)) (by decide)
theorem fl_Mod_48 {X : cd_E} : cd_FL X "CertificateDeskModel" 48 11 21 (.array .int) := cd_FL.of rfl rfl (by decide) kw_5_48 (Or.inl rfl)
theorem d_Mod_authorization_34 : decode prog_14_method_58_code 34 = .ok (.iconst 3, 1) := by decide +kernel
theorem d_Mod_authorization_35 : decode prog_14_method_58_code 35 = .ok (.iload_n 1, 1) := by decide +kernel
theorem d_Mod_authorization_36 : decode prog_14_method_58_code 36 = .ok (.imul, 1) := by decide +kernel
theorem d_Mod_authorization_37 : decode prog_14_method_58_code 37 = .ok (.iload_n 2, 1) := by decide +kernel
theorem d_Mod_authorization_38 : decode prog_14_method_58_code 38 = .ok (.iadd, 1) := by decide +kernel
theorem d_Mod_authorization_39 : decode prog_14_method_58_code 39 = .ok (.iaload, 1) := by decide +kernel
theorem g_Mod_authorization {X : cd_E} {kc ks : Nat} {h : cd_H} {Q : Option Value → cd_H → Prop} {p1 : Int32} {p2 : Int32} (F : cm_ok h) (H : (((p1 < 0) → (Q (some (.int (-1))) h)) ∧ ((¬ p1 < 0) → (((((cd_i h 82 17) ≤ p1) → (Q (some (.int (-1))) h)) ∧ ((¬ (cd_i h 82 17) ≤ p1) → ((((p2 < 0) → (Q (some (.int (-1))) h)) ∧ ((¬ p2 < 0) → ((vp_in p1 12) ∧ ((((p2 < (cd_i h 94 p1.toNatClampNeg)) → ((vp_in ((3 * p1) + p2) 36) ∧ (Q (some (.int (cd_i h 95 ((3 * p1) + p2).toNatClampNeg))) h))) ∧ ((¬ p2 < (cd_i h 94 p1.toNatClampNeg)) → (Q (some (.int (-1))) h)))))))))))))) : cd_W X m_Mod_authorization kc ks 0 [some (.ref 82), some (.int p1), some (.int p2)] [] h Q := by
  refine cd_iload_n (i := 1) d_Mod_authorization_0 rfl rfl ?_
  refine cd_if_lt (tgt := 26) d_Mod_authorization_1 (by decide) (fun t1 => ?_) (fun t1 => ?_)
  · replace H := H.1 t1
    refine cd_iconst (v := (-1)) d_Mod_authorization_26 (by decide) ?_
    refine cd_goto (tgt := 40) d_Mod_authorization_27 (by decide) ?_
    exact cd_iret d_Mod_authorization_40 rfl rfl H
  · replace H := H.2 t1
    refine cd_iload_n (i := 1) d_Mod_authorization_4 rfl rfl ?_
    refine cd_aload_n (i := 0) (v := .ref 82) d_Mod_authorization_5 rfl rfl (cd_isr_ref _) ?_
    refine cd_get (v := .int (cd_i h 82 17)) d_Mod_authorization_6 fl_Mod_189 (cm_k82 F) rfl ?_
    refine cd_icmp_ge (tgt := 26) d_Mod_authorization_9 (by decide) (fun t2 => ?_) (fun t2 => ?_)
    · replace H := H.1 t2
      refine cd_iconst (v := (-1)) d_Mod_authorization_26 (by decide) ?_
      refine cd_goto (tgt := 40) d_Mod_authorization_27 (by decide) ?_
      exact cd_iret d_Mod_authorization_40 rfl rfl H
    · replace H := H.2 t2
      refine cd_iload_n (i := 2) d_Mod_authorization_12 rfl rfl ?_
      refine cd_if_lt (tgt := 26) d_Mod_authorization_13 (by decide) (fun t3 => ?_) (fun t3 => ?_)
      · replace H := H.1 t3
        refine cd_iconst (v := (-1)) d_Mod_authorization_26 (by decide) ?_
        refine cd_goto (tgt := 40) d_Mod_authorization_27 (by decide) ?_
        exact cd_iret d_Mod_authorization_40 rfl rfl H
      · replace H := H.2 t3
        refine cd_iload_n (i := 2) d_Mod_authorization_16 rfl rfl ?_
        refine cd_aload_n (i := 0) (v := .ref 82) d_Mod_authorization_17 rfl rfl (cd_isr_ref _) ?_
        refine cd_get (v := .ref 94) d_Mod_authorization_18 fl_Mod_45 (cm_k82 F) (congrArg va_rf (cm_r20 F)) ?_
        refine cd_iload_n (i := 1) d_Mod_authorization_21 rfl rfl ?_
        obtain ⟨c4, H⟩ := H
        refine cd_iald (j := p1) d_Mod_authorization_22 rfl (cm_k94 F) c4 ?_
        refine cd_icmp_lt (tgt := 30) d_Mod_authorization_23 (by decide) (fun t5 => ?_) (fun t5 => ?_)
        · replace H := H.1 t5
          refine cd_aload_n (i := 0) (v := .ref 82) d_Mod_authorization_30 rfl rfl (cd_isr_ref _) ?_
          refine cd_get (v := .ref 95) d_Mod_authorization_31 fl_Mod_48 (cm_k82 F) (congrArg va_rf (cm_r21 F)) ?_
          refine cd_iconst (v := 3) d_Mod_authorization_34 (by decide) ?_
          refine cd_iload_n (i := 1) d_Mod_authorization_35 rfl rfl ?_
          refine cd_imul d_Mod_authorization_36 ?_
          refine cd_iload_n (i := 2) d_Mod_authorization_37 rfl rfl ?_
          refine cd_iadd d_Mod_authorization_38 ?_
          obtain ⟨c6, H⟩ := H
          refine cd_iald (j := ((3 * p1) + p2)) d_Mod_authorization_39 rfl (cm_k95 F) c6 ?_
          exact cd_iret d_Mod_authorization_40 rfl rfl H
        · replace H := H.2 t5
          refine cd_iconst (v := (-1)) d_Mod_authorization_26 (by decide) ?_
          refine cd_goto (tgt := 40) d_Mod_authorization_27 (by decide) ?_
          exact cd_iret d_Mod_authorization_40 rfl rfl H

abbrev m_Mod_serial : cd_M := (⟨"CertificateDeskModel", "serial", "(I)I"⟩, prog_14_method_60_code, 2, some .int, 1, 20)
theorem d_Mod_serial_0 : decode prog_14_method_60_code 0 = .ok (.iload_n 1, 1) := by decide +kernel
theorem d_Mod_serial_1 : decode prog_14_method_60_code 1 = .ok (.ifCond .lt 11, 3) := by decide +kernel
theorem d_Mod_serial_12 : decode prog_14_method_60_code 12 = .ok (.iconst (-1), 1) := by decide +kernel
theorem d_Mod_serial_13 : decode prog_14_method_60_code 13 = .ok (.goto 9, 3) := by decide +kernel
theorem d_Mod_serial_22 : decode prog_14_method_60_code 22 = .ok (.ireturn, 1) := by decide +kernel
theorem d_Mod_serial_4 : decode prog_14_method_60_code 4 = .ok (.iload_n 1, 1) := by decide +kernel
theorem d_Mod_serial_5 : decode prog_14_method_60_code 5 = .ok (.aload_n 0, 1) := by decide +kernel
theorem d_Mod_serial_6 : decode prog_14_method_60_code 6 = .ok (.getfield 189, 3) := by decide +kernel
theorem d_Mod_serial_9 : decode prog_14_method_60_code 9 = .ok (.if_icmp .lt 7, 3) := by decide +kernel
theorem d_Mod_serial_16 : decode prog_14_method_60_code 16 = .ok (.aload_n 0, 1) := by decide +kernel
theorem d_Mod_serial_17 : decode prog_14_method_60_code 17 = .ok (.getfield 51, 3) := by decide +kernel
theorem kw_5_49 : (Jvm.Cond.fieldLink "CertificateDeskModel" (51 : Nat) "CertificateDeskModel" "orderCert" "[I") ∈ cd_tbl := tb_5 (List.mem_of_getElem? (i := 49) (by decide +kernel)) (by decide)
theorem fl_Mod_51 {X : cd_E} : cd_FL X "CertificateDeskModel" 51 11 22 (.array .int) := cd_FL.of rfl rfl (by decide) kw_5_49 (Or.inl rfl)
theorem d_Mod_serial_20 : decode prog_14_method_60_code 20 = .ok (.iload_n 1, 1) := by decide +kernel
theorem d_Mod_serial_21 : decode prog_14_method_60_code 21 = .ok (.iaload, 1) := by decide +kernel
theorem g_Mod_serial {X : cd_E} {kc ks : Nat} {h : cd_H} {Q : Option Value → cd_H → Prop} {p1 : Int32} (F : cm_ok h) (H : (((p1 < 0) → (Q (some (.int (-1))) h)) ∧ ((¬ p1 < 0) → ((((p1 < (cd_i h 82 17)) → ((vp_in p1 12) ∧ (Q (some (.int (cd_i h 96 p1.toNatClampNeg))) h))) ∧ ((¬ p1 < (cd_i h 82 17)) → (Q (some (.int (-1))) h))))))) : cd_W X m_Mod_serial kc ks 0 [some (.ref 82), some (.int p1)] [] h Q := by
  refine cd_iload_n (i := 1) d_Mod_serial_0 rfl rfl ?_
  refine cd_if_lt (tgt := 12) d_Mod_serial_1 (by decide) (fun t1 => ?_) (fun t1 => ?_)
  · replace H := H.1 t1
    refine cd_iconst (v := (-1)) d_Mod_serial_12 (by decide) ?_
    refine cd_goto (tgt := 22) d_Mod_serial_13 (by decide) ?_
    exact cd_iret d_Mod_serial_22 rfl rfl H
  · replace H := H.2 t1
    refine cd_iload_n (i := 1) d_Mod_serial_4 rfl rfl ?_
    refine cd_aload_n (i := 0) (v := .ref 82) d_Mod_serial_5 rfl rfl (cd_isr_ref _) ?_
    refine cd_get (v := .int (cd_i h 82 17)) d_Mod_serial_6 fl_Mod_189 (cm_k82 F) rfl ?_
    refine cd_icmp_lt (tgt := 16) d_Mod_serial_9 (by decide) (fun t2 => ?_) (fun t2 => ?_)
    · replace H := H.1 t2
      refine cd_aload_n (i := 0) (v := .ref 82) d_Mod_serial_16 rfl rfl (cd_isr_ref _) ?_
      refine cd_get (v := .ref 96) d_Mod_serial_17 fl_Mod_51 (cm_k82 F) (congrArg va_rf (cm_r22 F)) ?_
      refine cd_iload_n (i := 1) d_Mod_serial_20 rfl rfl ?_
      obtain ⟨c3, H⟩ := H
      refine cd_iald (j := p1) d_Mod_serial_21 rfl (cm_k96 F) c3 ?_
      exact cd_iret d_Mod_serial_22 rfl rfl H
    · replace H := H.2 t2
      refine cd_iconst (v := (-1)) d_Mod_serial_12 (by decide) ?_
      refine cd_goto (tgt := 22) d_Mod_serial_13 (by decide) ?_
      exact cd_iret d_Mod_serial_22 rfl rfl H

abbrev m_Mod_standing : cd_M := (⟨"CertificateDeskModel", "standing", "(I)I"⟩, prog_14_method_61_code, 2, some .int, 1, 20)
theorem d_Mod_standing_0 : decode prog_14_method_61_code 0 = .ok (.iload_n 1, 1) := by decide +kernel
theorem d_Mod_standing_1 : decode prog_14_method_61_code 1 = .ok (.ifCond .lt 11, 3) := by decide +kernel
theorem d_Mod_standing_12 : decode prog_14_method_61_code 12 = .ok (.iconst (-1), 1) := by decide +kernel
theorem d_Mod_standing_13 : decode prog_14_method_61_code 13 = .ok (.ireturn, 1) := by decide +kernel
theorem d_Mod_standing_4 : decode prog_14_method_61_code 4 = .ok (.iload_n 1, 1) := by decide +kernel
theorem d_Mod_standing_5 : decode prog_14_method_61_code 5 = .ok (.aload_n 0, 1) := by decide +kernel
theorem d_Mod_standing_6 : decode prog_14_method_61_code 6 = .ok (.getfield 315, 3) := by decide +kernel
theorem kw_5_58 : (Jvm.Cond.fieldLink "CertificateDeskModel" (315 : Nat) "CertificateDeskModel" "certs" "I") ∈ cd_tbl := tb_5 (List.mem_of_getElem? (i := 58) (by decide +kernel)) (by decide)
theorem fl_Mod_315 {X : cd_E} : cd_FL X "CertificateDeskModel" 315 11 31 .int := cd_FL.of rfl rfl (by decide) kw_5_58 (Or.inl rfl)
theorem d_Mod_standing_9 : decode prog_14_method_61_code 9 = .ok (.if_icmp .lt 5, 3) := by decide +kernel
theorem d_Mod_standing_14 : decode prog_14_method_61_code 14 = .ok (.aload_n 0, 1) := by decide +kernel
theorem d_Mod_standing_15 : decode prog_14_method_61_code 15 = .ok (.getfield 87, 3) := by decide +kernel
theorem kw_5_63 : (Jvm.Cond.fieldLink "CertificateDeskModel" (87 : Nat) "CertificateDeskModel" "reason" "[I") ∈ cd_tbl := tb_5 (List.mem_of_getElem? (i := 63) (by decide +kernel)) (by decide)
theorem fl_Mod_87 {X : cd_E} : cd_FL X "CertificateDeskModel" 87 11 36 (.array .int) := cd_FL.of rfl rfl (by decide) kw_5_63 (Or.inl rfl)
theorem d_Mod_standing_18 : decode prog_14_method_61_code 18 = .ok (.iload_n 1, 1) := by decide +kernel
theorem d_Mod_standing_19 : decode prog_14_method_61_code 19 = .ok (.iaload, 1) := by decide +kernel
theorem d_Mod_standing_20 : decode prog_14_method_61_code 20 = .ok (.ifCond .lt 15, 3) := by decide +kernel
theorem d_Mod_standing_35 : decode prog_14_method_61_code 35 = .ok (.aload_n 0, 1) := by decide +kernel
theorem d_Mod_standing_36 : decode prog_14_method_61_code 36 = .ok (.getfield 186, 3) := by decide +kernel
theorem d_Mod_standing_39 : decode prog_14_method_61_code 39 = .ok (.aload_n 0, 1) := by decide +kernel
theorem d_Mod_standing_40 : decode prog_14_method_61_code 40 = .ok (.getfield 81, 3) := by decide +kernel
theorem kw_5_61 : (Jvm.Cond.fieldLink "CertificateDeskModel" (81 : Nat) "CertificateDeskModel" "certAt" "[I") ∈ cd_tbl := tb_5 (List.mem_of_getElem? (i := 61) (by decide +kernel)) (by decide)
theorem fl_Mod_81 {X : cd_E} : cd_FL X "CertificateDeskModel" 81 11 34 (.array .int) := cd_FL.of rfl rfl (by decide) kw_5_61 (Or.inl rfl)
theorem d_Mod_standing_43 : decode prog_14_method_61_code 43 = .ok (.iload_n 1, 1) := by decide +kernel
theorem d_Mod_standing_44 : decode prog_14_method_61_code 44 = .ok (.iaload, 1) := by decide +kernel
theorem d_Mod_standing_45 : decode prog_14_method_61_code 45 = .ok (.isub, 1) := by decide +kernel
theorem d_Mod_standing_46 : decode prog_14_method_61_code 46 = .ok (.bipush 20, 2) := by decide +kernel
theorem d_Mod_standing_48 : decode prog_14_method_61_code 48 = .ok (.if_icmp .lt 7, 3) := by decide +kernel
theorem d_Mod_standing_55 : decode prog_14_method_61_code 55 = .ok (.iconst 0, 1) := by decide +kernel
theorem d_Mod_standing_56 : decode prog_14_method_61_code 56 = .ok (.ireturn, 1) := by decide +kernel
theorem d_Mod_standing_51 : decode prog_14_method_61_code 51 = .ok (.iconst 1, 1) := by decide +kernel
theorem d_Mod_standing_52 : decode prog_14_method_61_code 52 = .ok (.goto 4, 3) := by decide +kernel
theorem d_Mod_standing_23 : decode prog_14_method_61_code 23 = .ok (.bipush 100, 2) := by decide +kernel
theorem d_Mod_standing_25 : decode prog_14_method_61_code 25 = .ok (.aload_n 0, 1) := by decide +kernel
theorem d_Mod_standing_26 : decode prog_14_method_61_code 26 = .ok (.getfield 87, 3) := by decide +kernel
theorem d_Mod_standing_29 : decode prog_14_method_61_code 29 = .ok (.iload_n 1, 1) := by decide +kernel
theorem d_Mod_standing_30 : decode prog_14_method_61_code 30 = .ok (.iaload, 1) := by decide +kernel
theorem d_Mod_standing_31 : decode prog_14_method_61_code 31 = .ok (.iadd, 1) := by decide +kernel
theorem d_Mod_standing_32 : decode prog_14_method_61_code 32 = .ok (.goto 24, 3) := by decide +kernel
theorem g_Mod_standing {X : cd_E} {kc ks : Nat} {h : cd_H} {Q : Option Value → cd_H → Prop} {p1 : Int32} (F : cm_ok h) (H : (((p1 < 0) → (Q (some (.int (-1))) h)) ∧ ((¬ p1 < 0) → ((((p1 < (cd_i h 82 31)) → ((vp_in p1 12) ∧ (((((cd_i h 108 p1.toNatClampNeg) < 0) → ((((((cd_i h 82 9) - (cd_i h 106 p1.toNatClampNeg)) < 20) → (Q (some (.int 0)) h)) ∧ ((¬ ((cd_i h 82 9) - (cd_i h 106 p1.toNatClampNeg)) < 20) → (Q (some (.int 1)) h))))) ∧ ((¬ (cd_i h 108 p1.toNatClampNeg) < 0) → (Q (some (.int (100 + (cd_i h 108 p1.toNatClampNeg)))) h)))))) ∧ ((¬ p1 < (cd_i h 82 31)) → (Q (some (.int (-1))) h))))))) : cd_W X m_Mod_standing kc ks 0 [some (.ref 82), some (.int p1)] [] h Q := by
  refine cd_iload_n (i := 1) d_Mod_standing_0 rfl rfl ?_
  refine cd_if_lt (tgt := 12) d_Mod_standing_1 (by decide) (fun t1 => ?_) (fun t1 => ?_)
  · replace H := H.1 t1
    refine cd_iconst (v := (-1)) d_Mod_standing_12 (by decide) ?_
    exact cd_iret d_Mod_standing_13 rfl rfl H
  · replace H := H.2 t1
    refine cd_iload_n (i := 1) d_Mod_standing_4 rfl rfl ?_
    refine cd_aload_n (i := 0) (v := .ref 82) d_Mod_standing_5 rfl rfl (cd_isr_ref _) ?_
    refine cd_get (v := .int (cd_i h 82 31)) d_Mod_standing_6 fl_Mod_315 (cm_k82 F) rfl ?_
    refine cd_icmp_lt (tgt := 14) d_Mod_standing_9 (by decide) (fun t2 => ?_) (fun t2 => ?_)
    · replace H := H.1 t2
      refine cd_aload_n (i := 0) (v := .ref 82) d_Mod_standing_14 rfl rfl (cd_isr_ref _) ?_
      refine cd_get (v := .ref 108) d_Mod_standing_15 fl_Mod_87 (cm_k82 F) (congrArg va_rf (cm_r36 F)) ?_
      refine cd_iload_n (i := 1) d_Mod_standing_18 rfl rfl ?_
      obtain ⟨c3, H⟩ := H
      refine cd_iald (j := p1) d_Mod_standing_19 rfl (cm_k108 F) c3 ?_
      refine cd_if_lt (tgt := 35) d_Mod_standing_20 (by decide) (fun t4 => ?_) (fun t4 => ?_)
      · replace H := H.1 t4
        refine cd_aload_n (i := 0) (v := .ref 82) d_Mod_standing_35 rfl rfl (cd_isr_ref _) ?_
        refine cd_get (v := .int (cd_i h 82 9)) d_Mod_standing_36 fl_Mod_186 (cm_k82 F) rfl ?_
        refine cd_aload_n (i := 0) (v := .ref 82) d_Mod_standing_39 rfl rfl (cd_isr_ref _) ?_
        refine cd_get (v := .ref 106) d_Mod_standing_40 fl_Mod_81 (cm_k82 F) (congrArg va_rf (cm_r34 F)) ?_
        refine cd_iload_n (i := 1) d_Mod_standing_43 rfl rfl ?_
        refine cd_iald (j := p1) d_Mod_standing_44 rfl (cm_k106 F) c3 ?_
        refine cd_isub d_Mod_standing_45 ?_
        refine cd_bipush (v := 20) d_Mod_standing_46 (by decide) ?_
        refine cd_icmp_lt (tgt := 55) d_Mod_standing_48 (by decide) (fun t5 => ?_) (fun t5 => ?_)
        · replace H := H.1 t5
          refine cd_iconst (v := 0) d_Mod_standing_55 (by decide) ?_
          exact cd_iret d_Mod_standing_56 rfl rfl H
        · replace H := H.2 t5
          refine cd_iconst (v := 1) d_Mod_standing_51 (by decide) ?_
          refine cd_goto (tgt := 56) d_Mod_standing_52 (by decide) ?_
          exact cd_iret d_Mod_standing_56 rfl rfl H
      · replace H := H.2 t4
        refine cd_bipush (v := 100) d_Mod_standing_23 (by decide) ?_
        refine cd_aload_n (i := 0) (v := .ref 82) d_Mod_standing_25 rfl rfl (cd_isr_ref _) ?_
        refine cd_get (v := .ref 108) d_Mod_standing_26 fl_Mod_87 (cm_k82 F) (congrArg va_rf (cm_r36 F)) ?_
        refine cd_iload_n (i := 1) d_Mod_standing_29 rfl rfl ?_
        refine cd_iald (j := p1) d_Mod_standing_30 rfl (cm_k108 F) c3 ?_
        refine cd_iadd d_Mod_standing_31 ?_
        refine cd_goto (tgt := 56) d_Mod_standing_32 (by decide) ?_
        exact cd_iret d_Mod_standing_56 rfl rfl H
    · replace H := H.2 t2
      refine cd_iconst (v := (-1)) d_Mod_standing_12 (by decide) ?_
      exact cd_iret d_Mod_standing_13 rfl rfl H

abbrev m_Mod_key : cd_M := (⟨"CertificateDeskModel", "key", "(IIII)V"⟩, prog_14_method_2_code, 5, none, 1, 20)
theorem d_Mod_key_0 : decode prog_14_method_2_code 0 = .ok (.aload_n 0, 1) := by decide +kernel
theorem d_Mod_key_1 : decode prog_14_method_2_code 1 = .ok (.getfield 16, 3) := by decide +kernel
theorem kw_5_31 : (Jvm.Cond.fieldLink "CertificateDeskModel" (16 : Nat) "CertificateDeskModel" "primeP" "[I") ∈ cd_tbl := tb_5 (List.mem_of_getElem? (i := 31) (by decide +kernel)) (by decide)
theorem fl_Mod_16 {X : cd_E} : cd_FL X "CertificateDeskModel" 16 11 4 (.array .int) := cd_FL.of rfl rfl (by decide) kw_5_31 (Or.inl rfl)
theorem d_Mod_key_4 : decode prog_14_method_2_code 4 = .ok (.iload_n 1, 1) := by decide +kernel
theorem d_Mod_key_5 : decode prog_14_method_2_code 5 = .ok (.iload_n 2, 1) := by decide +kernel
theorem d_Mod_key_6 : decode prog_14_method_2_code 6 = .ok (.iastore, 1) := by decide +kernel
theorem d_Mod_key_7 : decode prog_14_method_2_code 7 = .ok (.aload_n 0, 1) := by decide +kernel
theorem d_Mod_key_8 : decode prog_14_method_2_code 8 = .ok (.getfield 20, 3) := by decide +kernel
theorem kw_5_32 : (Jvm.Cond.fieldLink "CertificateDeskModel" (20 : Nat) "CertificateDeskModel" "primeQ" "[I") ∈ cd_tbl := tb_5 (List.mem_of_getElem? (i := 32) (by decide +kernel)) (by decide)
theorem fl_Mod_20 {X : cd_E} : cd_FL X "CertificateDeskModel" 20 11 5 (.array .int) := cd_FL.of rfl rfl (by decide) kw_5_32 (Or.inl rfl)
theorem d_Mod_key_11 : decode prog_14_method_2_code 11 = .ok (.iload_n 1, 1) := by decide +kernel
theorem d_Mod_key_12 : decode prog_14_method_2_code 12 = .ok (.iload_n 3, 1) := by decide +kernel
theorem d_Mod_key_13 : decode prog_14_method_2_code 13 = .ok (.iastore, 1) := by decide +kernel
theorem d_Mod_key_14 : decode prog_14_method_2_code 14 = .ok (.aload_n 0, 1) := by decide +kernel
theorem d_Mod_key_15 : decode prog_14_method_2_code 15 = .ok (.getfield 23, 3) := by decide +kernel
theorem kw_5_33 : (Jvm.Cond.fieldLink "CertificateDeskModel" (23 : Nat) "CertificateDeskModel" "exponent" "[I") ∈ cd_tbl := tb_5 (List.mem_of_getElem? (i := 33) (by decide +kernel)) (by decide)
theorem fl_Mod_23 {X : cd_E} : cd_FL X "CertificateDeskModel" 23 11 6 (.array .int) := cd_FL.of rfl rfl (by decide) kw_5_33 (Or.inl rfl)
theorem d_Mod_key_18 : decode prog_14_method_2_code 18 = .ok (.iload_n 1, 1) := by decide +kernel
theorem d_Mod_key_19 : decode prog_14_method_2_code 19 = .ok (.iload 4, 2) := by decide +kernel
theorem d_Mod_key_21 : decode prog_14_method_2_code 21 = .ok (.iastore, 1) := by decide +kernel
theorem d_Mod_key_22 : decode prog_14_method_2_code 22 = .ok (.return_, 1) := by decide +kernel
theorem g_Mod_key {X : cd_E} {kc ks : Nat} {h : cd_H} {Q : Option Value → cd_H → Prop} {p1 : Int32} {p2 : Int32} {p3 : Int32} {p4 : Int32} (F : cm_ok h) (H : (vp_in p1 5) ∧ (Q none (cd_si (cd_si (cd_si h 85 p1.toNatClampNeg p2) 86 p1.toNatClampNeg p3) 87 p1.toNatClampNeg p4))) : cd_W X m_Mod_key kc ks 0 [some (.ref 82), some (.int p1), some (.int p2), some (.int p3), some (.int p4)] [] h Q := by
  refine cd_aload_n (i := 0) (v := .ref 82) d_Mod_key_0 rfl rfl (cd_isr_ref _) ?_
  refine cd_get (v := .ref 85) d_Mod_key_1 fl_Mod_16 (cm_k82 F) (congrArg va_rf (cm_r4 F)) ?_
  refine cd_iload_n (i := 1) d_Mod_key_4 rfl rfl ?_
  refine cd_iload_n (i := 2) d_Mod_key_5 rfl rfl ?_
  obtain ⟨c1, H⟩ := H
  refine cd_iasto (j := p1) d_Mod_key_6 rfl (cm_k85 F) (by decide) c1 ?_
  refine cd_aload_n (i := 0) (v := .ref 82) d_Mod_key_7 rfl rfl (cd_isr_ref _) ?_
  refine cd_get (v := .ref 86) d_Mod_key_8 fl_Mod_20 (cm_k82 F) (congrArg va_rf (cm_r5 F)) ?_
  refine cd_iload_n (i := 1) d_Mod_key_11 rfl rfl ?_
  refine cd_iload_n (i := 3) d_Mod_key_12 rfl rfl ?_
  refine cd_iasto (j := p1) d_Mod_key_13 rfl (cm_k86 F) (by decide) c1 ?_
  refine cd_aload_n (i := 0) (v := .ref 82) d_Mod_key_14 rfl rfl (cd_isr_ref _) ?_
  refine cd_get (v := .ref 87) d_Mod_key_15 fl_Mod_23 (cm_k82 F) (congrArg va_rf (cm_r6 F)) ?_
  refine cd_iload_n (i := 1) d_Mod_key_18 rfl rfl ?_
  refine cd_iload (i := 4) d_Mod_key_19 rfl ?_
  refine cd_iasto (j := p1) d_Mod_key_21 rfl (cm_k87 F) (by decide) c1 ?_
  exact cd_vret d_Mod_key_22 rfl H

abbrev m_Mod_emit : cd_M := (⟨"CertificateDeskModel", "emit", "(I)V"⟩, prog_14_method_53_code, 2, none, 1, 20)
theorem d_Mod_emit_0 : decode prog_14_method_53_code 0 = .ok (.aload_n 0, 1) := by decide +kernel
theorem d_Mod_emit_1 : decode prog_14_method_53_code 1 = .ok (.getfield 100, 3) := by decide +kernel
theorem kw_5_68 : (Jvm.Cond.fieldLink "CertificateDeskModel" (100 : Nat) "CertificateDeskModel" "out" "[I") ∈ cd_tbl := tb_5 (List.mem_of_getElem? (i := 68) (by decide +kernel)) (by decide)
theorem fl_Mod_100 {X : cd_E} : cd_FL X "CertificateDeskModel" 100 11 41 (.array .int) := cd_FL.of rfl rfl (by decide) kw_5_68 (Or.inl rfl)
theorem d_Mod_emit_4 : decode prog_14_method_53_code 4 = .ok (.aload_n 0, 1) := by decide +kernel
theorem d_Mod_emit_5 : decode prog_14_method_53_code 5 = .ok (.getfield 321, 3) := by decide +kernel
theorem kw_5_69 : (Jvm.Cond.fieldLink "CertificateDeskModel" (321 : Nat) "CertificateDeskModel" "outs" "I") ∈ cd_tbl := tb_5 (List.mem_of_getElem? (i := 69) (by decide +kernel)) (by decide)
theorem fl_Mod_321 {X : cd_E} : cd_FL X "CertificateDeskModel" 321 11 42 .int := cd_FL.of rfl rfl (by decide) kw_5_69 (Or.inl rfl)
theorem d_Mod_emit_8 : decode prog_14_method_53_code 8 = .ok (.iload_n 1, 1) := by decide +kernel
theorem d_Mod_emit_9 : decode prog_14_method_53_code 9 = .ok (.iastore, 1) := by decide +kernel
theorem d_Mod_emit_10 : decode prog_14_method_53_code 10 = .ok (.aload_n 0, 1) := by decide +kernel
theorem d_Mod_emit_11 : decode prog_14_method_53_code 11 = .ok (.dup, 1) := by decide +kernel
theorem d_Mod_emit_12 : decode prog_14_method_53_code 12 = .ok (.getfield 321, 3) := by decide +kernel
theorem d_Mod_emit_15 : decode prog_14_method_53_code 15 = .ok (.iconst 1, 1) := by decide +kernel
theorem d_Mod_emit_16 : decode prog_14_method_53_code 16 = .ok (.iadd, 1) := by decide +kernel
theorem d_Mod_emit_17 : decode prog_14_method_53_code 17 = .ok (.putfield 321, 3) := by decide +kernel
theorem fp_Mod_emit_321 {X : cd_E} : cd_FP X m_Mod_emit 321 11 42 .int := cd_FP.of cl_11 rfl rfl (by decide) kw_5_69 (Or.inl rfl) (Or.inl rfl)
theorem d_Mod_emit_20 : decode prog_14_method_53_code 20 = .ok (.return_, 1) := by decide +kernel
theorem g_Mod_emit {X : cd_E} {kc ks : Nat} {h : cd_H} {Q : Option Value → cd_H → Prop} {p1 : Int32} (F : cm_ok h) (H : (vp_in (cd_i h 82 42) 100) ∧ (Q none (cd_si (cd_si h 111 (cd_i h 82 42).toNatClampNeg p1) 82 42 ((cd_i (cd_si h 111 (cd_i h 82 42).toNatClampNeg p1) 82 42) + 1)))) : cd_W X m_Mod_emit kc ks 0 [some (.ref 82), some (.int p1)] [] h Q := by
  refine cd_aload_n (i := 0) (v := .ref 82) d_Mod_emit_0 rfl rfl (cd_isr_ref _) ?_
  refine cd_get (v := .ref 111) d_Mod_emit_1 fl_Mod_100 (cm_k82 F) (congrArg va_rf (cm_r41 F)) ?_
  refine cd_aload_n (i := 0) (v := .ref 82) d_Mod_emit_4 rfl rfl (cd_isr_ref _) ?_
  refine cd_get (v := .int (cd_i h 82 42)) d_Mod_emit_5 fl_Mod_321 (cm_k82 F) rfl ?_
  refine cd_iload_n (i := 1) d_Mod_emit_8 rfl rfl ?_
  obtain ⟨c1, H⟩ := H
  refine cd_iasto (j := (cd_i h 82 42)) d_Mod_emit_9 rfl (cm_k111 F) (by decide) c1 ?_
  refine cd_aload_n (i := 0) (v := .ref 82) d_Mod_emit_10 rfl rfl (cd_isr_ref _) ?_
  refine cd_dup d_Mod_emit_11 rfl ?_
  refine cd_get (v := .int (cd_i (cd_si h 111 (cd_i h 82 42).toNatClampNeg p1) 82 42)) d_Mod_emit_12 fl_Mod_321 (cm_k82 F) rfl ?_
  refine cd_iconst (v := 1) d_Mod_emit_15 (by decide) ?_
  refine cd_iadd d_Mod_emit_16 ?_
  refine cd_putI d_Mod_emit_17 fp_Mod_emit_321 (fun _ _ _ => rfl) (cm_k82 F) (by decide) rfl rfl ?_
  exact cd_vret d_Mod_emit_20 rfl H

