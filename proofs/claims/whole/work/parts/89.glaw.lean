abbrev m_Law_cell : cd_M := (⟨"CertificateDeskLaw", "cell", "([II)I"⟩, method_2_code, 2, some .int, 1, 20)
theorem d_Law_cell_0 : decode method_2_code 0 = .ok (.iload_n 1, 1) := by decide +kernel
theorem d_Law_cell_1 : decode method_2_code 1 = .ok (.aload_n 0, 1) := by decide +kernel
theorem d_Law_cell_2 : decode method_2_code 2 = .ok (.arraylength, 1) := by decide +kernel
theorem d_Law_cell_3 : decode method_2_code 3 = .ok (.if_icmp .ge 9, 3) := by decide +kernel
theorem d_Law_cell_12 : decode method_2_code 12 = .ok (.iconst 0, 1) := by decide +kernel
theorem d_Law_cell_13 : decode method_2_code 13 = .ok (.ireturn, 1) := by decide +kernel
theorem d_Law_cell_6 : decode method_2_code 6 = .ok (.aload_n 0, 1) := by decide +kernel
theorem d_Law_cell_7 : decode method_2_code 7 = .ok (.iload_n 1, 1) := by decide +kernel
theorem d_Law_cell_8 : decode method_2_code 8 = .ok (.iaload, 1) := by decide +kernel
theorem d_Law_cell_9 : decode method_2_code 9 = .ok (.goto 4, 3) := by decide +kernel
theorem g_Law_cell {X : cd_E} {kc ks : Nat} {h : cd_H} {Q : Option Value → cd_H → Prop} {p2 : Int32} (H : ((((nI (cd_sL X)) ≤ p2) → (Q (some (.int 0)) h)) ∧ ((¬ (nI (cd_sL X)) ≤ p2) → ((vp_in p2 (cd_sL X)) ∧ (Q (some (.int (cd_sx X p2.toNatClampNeg))) h))))) : cd_W X m_Law_cell kc ks 0 [some (.ref 35), some (.int p2)] [] h Q := by
  refine cd_iload_n (i := 1) d_Law_cell_0 rfl rfl ?_
  refine cd_aload_n (i := 0) (v := .ref 35) d_Law_cell_1 rfl rfl (cd_isr_ref _) ?_
  refine cd_slen d_Law_cell_2 ?_
  refine cd_icmp_ge (tgt := 12) d_Law_cell_3 (by decide) (fun t1 => ?_) (fun t1 => ?_)
  · replace H := H.1 t1
    refine cd_iconst (v := 0) d_Law_cell_12 (by decide) ?_
    exact cd_iret d_Law_cell_13 rfl rfl H
  · replace H := H.2 t1
    refine cd_aload_n (i := 0) (v := .ref 35) d_Law_cell_6 rfl rfl (cd_isr_ref _) ?_
    refine cd_iload_n (i := 1) d_Law_cell_7 rfl rfl ?_
    obtain ⟨c2, H⟩ := H
    refine cd_sld (j := p2) d_Law_cell_8 c2 ?_
    refine cd_goto (tgt := 13) d_Law_cell_9 (by decide) ?_
    exact cd_iret d_Law_cell_13 rfl rfl H

abbrev m_Law_law : cd_M := (⟨"CertificateDeskLaw", "law", "([I)Z"⟩, code, 4, some .boolean, 33, 1625)
theorem d_Law_law_28 : decode code 28 = .ok (.iload_n 3, 1) := by decide +kernel
theorem d_Law_law_29 : decode code 29 = .ok (.aload_n 0, 1) := by decide +kernel
theorem d_Law_law_30 : decode code 30 = .ok (.arraylength, 1) := by decide +kernel
theorem d_Law_law_31 : decode code 31 = .ok (.iconst 5, 1) := by decide +kernel
theorem d_Law_law_32 : decode code 32 = .ok (.isub, 1) := by decide +kernel
theorem d_Law_law_33 : decode code 33 = .ok (.if_icmp .gt 562, 3) := by decide +kernel
theorem d_Law_law_595 : decode code 595 = .ok (.iconst 1, 1) := by decide +kernel
theorem d_Law_law_596 : decode code 596 = .ok (.ireturn, 1) := by decide +kernel
theorem d_Law_law_36 : decode code 36 = .ok (.aload_n 0, 1) := by decide +kernel
theorem d_Law_law_37 : decode code 37 = .ok (.iload_n 3, 1) := by decide +kernel
theorem d_Law_law_38 : decode code 38 = .ok (.iaload, 1) := by decide +kernel
theorem d_Law_law_39 : decode code 39 = .ok (.bipush 31, 2) := by decide +kernel
theorem d_Law_law_41 : decode code 41 = .ok (.iand, 1) := by decide +kernel
theorem d_Law_law_42 : decode code 42 = .ok (.tableswitch 547 0 18 #[90, 115, 128, 181, 194, 237, 270, 283, 306, 317, 330, 353, 376, 409, 432, 455, 478, 511, 534], 90) := by decide +kernel
theorem d_Law_law_589 : decode code 589 = .ok (.iinc 3 5, 3) := by decide +kernel
theorem d_Law_law_592 : decode code 592 = .ok (.goto (-564), 3) := by decide +kernel
theorem g_Law_law_28 {X : cd_E} {kc ks : Nat} {h : cd_H} {Q : Option Value → cd_H → Prop} {v3 : Int32} (H : (((((nI (cd_sL X)) - 5) < v3) → (Q (some (.int 1)) h)) ∧ ((¬ ((nI (cd_sL X)) - 5) < v3) → ((vp_in v3 (cd_sL X)) ∧ ((((((cd_sx X v3.toNatClampNeg) &&& 31) = 0) → (cd_W X m_Law_law kc ks 132 [some (.ref 35), some (.ref 64), some (.ref 82), some (.int v3)] [] h Q)) ∧ ((¬ ((cd_sx X v3.toNatClampNeg) &&& 31) = 0) → ((((((cd_sx X v3.toNatClampNeg) &&& 31) = 1) → (cd_W X m_Law_law kc ks 157 [some (.ref 35), some (.ref 64), some (.ref 82), some (.int v3)] [] h Q)) ∧ ((¬ ((cd_sx X v3.toNatClampNeg) &&& 31) = 1) → ((((((cd_sx X v3.toNatClampNeg) &&& 31) = 2) → (cd_W X m_Law_law kc ks 170 [some (.ref 35), some (.ref 64), some (.ref 82), some (.int v3)] [] h Q)) ∧ ((¬ ((cd_sx X v3.toNatClampNeg) &&& 31) = 2) → ((((((cd_sx X v3.toNatClampNeg) &&& 31) = 3) → (cd_W X m_Law_law kc ks 223 [some (.ref 35), some (.ref 64), some (.ref 82), some (.int v3)] [] h Q)) ∧ ((¬ ((cd_sx X v3.toNatClampNeg) &&& 31) = 3) → ((((((cd_sx X v3.toNatClampNeg) &&& 31) = 4) → (cd_W X m_Law_law kc ks 236 [some (.ref 35), some (.ref 64), some (.ref 82), some (.int v3)] [] h Q)) ∧ ((¬ ((cd_sx X v3.toNatClampNeg) &&& 31) = 4) → ((((((cd_sx X v3.toNatClampNeg) &&& 31) = 5) → (cd_W X m_Law_law kc ks 279 [some (.ref 35), some (.ref 64), some (.ref 82), some (.int v3)] [] h Q)) ∧ ((¬ ((cd_sx X v3.toNatClampNeg) &&& 31) = 5) → ((((((cd_sx X v3.toNatClampNeg) &&& 31) = 6) → (cd_W X m_Law_law kc ks 312 [some (.ref 35), some (.ref 64), some (.ref 82), some (.int v3)] [] h Q)) ∧ ((¬ ((cd_sx X v3.toNatClampNeg) &&& 31) = 6) → ((((((cd_sx X v3.toNatClampNeg) &&& 31) = 7) → (cd_W X m_Law_law kc ks 325 [some (.ref 35), some (.ref 64), some (.ref 82), some (.int v3)] [] h Q)) ∧ ((¬ ((cd_sx X v3.toNatClampNeg) &&& 31) = 7) → ((((((cd_sx X v3.toNatClampNeg) &&& 31) = 8) → (cd_W X m_Law_law kc ks 348 [some (.ref 35), some (.ref 64), some (.ref 82), some (.int v3)] [] h Q)) ∧ ((¬ ((cd_sx X v3.toNatClampNeg) &&& 31) = 8) → ((((((cd_sx X v3.toNatClampNeg) &&& 31) = 9) → (cd_W X m_Law_law kc ks 359 [some (.ref 35), some (.ref 64), some (.ref 82), some (.int v3)] [] h Q)) ∧ ((¬ ((cd_sx X v3.toNatClampNeg) &&& 31) = 9) → ((((((cd_sx X v3.toNatClampNeg) &&& 31) = 10) → (cd_W X m_Law_law kc ks 372 [some (.ref 35), some (.ref 64), some (.ref 82), some (.int v3)] [] h Q)) ∧ ((¬ ((cd_sx X v3.toNatClampNeg) &&& 31) = 10) → ((((((cd_sx X v3.toNatClampNeg) &&& 31) = 11) → (cd_W X m_Law_law kc ks 395 [some (.ref 35), some (.ref 64), some (.ref 82), some (.int v3)] [] h Q)) ∧ ((¬ ((cd_sx X v3.toNatClampNeg) &&& 31) = 11) → ((((((cd_sx X v3.toNatClampNeg) &&& 31) = 12) → (cd_W X m_Law_law kc ks 418 [some (.ref 35), some (.ref 64), some (.ref 82), some (.int v3)] [] h Q)) ∧ ((¬ ((cd_sx X v3.toNatClampNeg) &&& 31) = 12) → ((((((cd_sx X v3.toNatClampNeg) &&& 31) = 13) → (cd_W X m_Law_law kc ks 451 [some (.ref 35), some (.ref 64), some (.ref 82), some (.int v3)] [] h Q)) ∧ ((¬ ((cd_sx X v3.toNatClampNeg) &&& 31) = 13) → ((((((cd_sx X v3.toNatClampNeg) &&& 31) = 14) → (cd_W X m_Law_law kc ks 474 [some (.ref 35), some (.ref 64), some (.ref 82), some (.int v3)] [] h Q)) ∧ ((¬ ((cd_sx X v3.toNatClampNeg) &&& 31) = 14) → ((((((cd_sx X v3.toNatClampNeg) &&& 31) = 15) → (cd_W X m_Law_law kc ks 497 [some (.ref 35), some (.ref 64), some (.ref 82), some (.int v3)] [] h Q)) ∧ ((¬ ((cd_sx X v3.toNatClampNeg) &&& 31) = 15) → ((((((cd_sx X v3.toNatClampNeg) &&& 31) = 16) → (cd_W X m_Law_law kc ks 520 [some (.ref 35), some (.ref 64), some (.ref 82), some (.int v3)] [] h Q)) ∧ ((¬ ((cd_sx X v3.toNatClampNeg) &&& 31) = 16) → ((((((cd_sx X v3.toNatClampNeg) &&& 31) = 17) → (cd_W X m_Law_law kc ks 553 [some (.ref 35), some (.ref 64), some (.ref 82), some (.int v3)] [] h Q)) ∧ ((¬ ((cd_sx X v3.toNatClampNeg) &&& 31) = 17) → ((((((cd_sx X v3.toNatClampNeg) &&& 31) = 18) → (cd_W X m_Law_law kc ks 576 [some (.ref 35), some (.ref 64), some (.ref 82), some (.int v3)] [] h Q)) ∧ ((¬ ((cd_sx X v3.toNatClampNeg) &&& 31) = 18) → (cd_W X m_Law_law kc ks 28 [some (.ref 35), some (.ref 64), some (.ref 82), some (.int (v3 + 5))] [] h Q)))))))))))))))))))))))))))))))))))))))))))))))))))))))))))))) : cd_W X m_Law_law kc ks 28 [some (.ref 35), some (.ref 64), some (.ref 82), some (.int v3)] [] h Q := by
  refine cd_iload_n (i := 3) d_Law_law_28 rfl rfl ?_
  show cd_W X m_Law_law kc ks 29 [some (.ref 35), some (.ref 64), some (.ref 82), some (.int v3)] [.int v3] h Q
  refine cd_aload_n (i := 0) (v := .ref 35) d_Law_law_29 rfl rfl (cd_isr_ref _) ?_
  refine cd_slen d_Law_law_30 ?_
  refine cd_iconst (v := 5) d_Law_law_31 (by decide) ?_
  refine cd_isub d_Law_law_32 ?_
  refine cd_icmp_gt (tgt := 595) d_Law_law_33 (by decide) (fun t1 => ?_) (fun t1 => ?_)
  · replace H := H.1 t1
    refine cd_iconst (v := 1) d_Law_law_595 (by decide) ?_
    exact cd_iret d_Law_law_596 rfl rfl H
  · replace H := H.2 t1
    refine cd_aload_n (i := 0) (v := .ref 35) d_Law_law_36 rfl rfl (cd_isr_ref _) ?_
    show cd_W X m_Law_law kc ks 37 [some (.ref 35), some (.ref 64), some (.ref 82), some (.int v3)] [.ref 35] h Q
    refine cd_iload_n (i := 3) d_Law_law_37 rfl rfl ?_
    obtain ⟨c2, H⟩ := H
    refine cd_sld (j := v3) d_Law_law_38 c2 ?_
    refine cd_bipush (v := 31) d_Law_law_39 (by decide) ?_
    refine cd_iand d_Law_law_41 ?_
    by_cases t3 : ((cd_sx X v3.toNatClampNeg) &&& 31) = 0
    · replace H := H.1 t3
      rw [t3]
      refine cd_tabIn (tgt := 132) d_Law_law_42 (by decide) (by decide) rfl (by decide) ?_
      exact H
    · replace H := H.2 t3
      by_cases t4 : ((cd_sx X v3.toNatClampNeg) &&& 31) = 1
      · replace H := H.1 t4
        rw [t4]
        refine cd_tabIn (tgt := 157) d_Law_law_42 (by decide) (by decide) rfl (by decide) ?_
        exact H
      · replace H := H.2 t4
        by_cases t5 : ((cd_sx X v3.toNatClampNeg) &&& 31) = 2
        · replace H := H.1 t5
          rw [t5]
          refine cd_tabIn (tgt := 170) d_Law_law_42 (by decide) (by decide) rfl (by decide) ?_
          exact H
        · replace H := H.2 t5
          by_cases t6 : ((cd_sx X v3.toNatClampNeg) &&& 31) = 3
          · replace H := H.1 t6
            rw [t6]
            refine cd_tabIn (tgt := 223) d_Law_law_42 (by decide) (by decide) rfl (by decide) ?_
            exact H
          · replace H := H.2 t6
            by_cases t7 : ((cd_sx X v3.toNatClampNeg) &&& 31) = 4
            · replace H := H.1 t7
              rw [t7]
              refine cd_tabIn (tgt := 236) d_Law_law_42 (by decide) (by decide) rfl (by decide) ?_
              exact H
            · replace H := H.2 t7
              by_cases t8 : ((cd_sx X v3.toNatClampNeg) &&& 31) = 5
              · replace H := H.1 t8
                rw [t8]
                refine cd_tabIn (tgt := 279) d_Law_law_42 (by decide) (by decide) rfl (by decide) ?_
                exact H
              · replace H := H.2 t8
                by_cases t9 : ((cd_sx X v3.toNatClampNeg) &&& 31) = 6
                · replace H := H.1 t9
                  rw [t9]
                  refine cd_tabIn (tgt := 312) d_Law_law_42 (by decide) (by decide) rfl (by decide) ?_
                  exact H
                · replace H := H.2 t9
                  by_cases t10 : ((cd_sx X v3.toNatClampNeg) &&& 31) = 7
                  · replace H := H.1 t10
                    rw [t10]
                    refine cd_tabIn (tgt := 325) d_Law_law_42 (by decide) (by decide) rfl (by decide) ?_
                    exact H
                  · replace H := H.2 t10
                    by_cases t11 : ((cd_sx X v3.toNatClampNeg) &&& 31) = 8
                    · replace H := H.1 t11
                      rw [t11]
                      refine cd_tabIn (tgt := 348) d_Law_law_42 (by decide) (by decide) rfl (by decide) ?_
                      exact H
                    · replace H := H.2 t11
                      by_cases t12 : ((cd_sx X v3.toNatClampNeg) &&& 31) = 9
                      · replace H := H.1 t12
                        rw [t12]
                        refine cd_tabIn (tgt := 359) d_Law_law_42 (by decide) (by decide) rfl (by decide) ?_
                        exact H
                      · replace H := H.2 t12
                        by_cases t13 : ((cd_sx X v3.toNatClampNeg) &&& 31) = 10
                        · replace H := H.1 t13
                          rw [t13]
                          refine cd_tabIn (tgt := 372) d_Law_law_42 (by decide) (by decide) rfl (by decide) ?_
                          exact H
                        · replace H := H.2 t13
                          by_cases t14 : ((cd_sx X v3.toNatClampNeg) &&& 31) = 11
                          · replace H := H.1 t14
                            rw [t14]
                            refine cd_tabIn (tgt := 395) d_Law_law_42 (by decide) (by decide) rfl (by decide) ?_
                            exact H
                          · replace H := H.2 t14
                            by_cases t15 : ((cd_sx X v3.toNatClampNeg) &&& 31) = 12
                            · replace H := H.1 t15
                              rw [t15]
                              refine cd_tabIn (tgt := 418) d_Law_law_42 (by decide) (by decide) rfl (by decide) ?_
                              exact H
                            · replace H := H.2 t15
                              by_cases t16 : ((cd_sx X v3.toNatClampNeg) &&& 31) = 13
                              · replace H := H.1 t16
                                rw [t16]
                                refine cd_tabIn (tgt := 451) d_Law_law_42 (by decide) (by decide) rfl (by decide) ?_
                                exact H
                              · replace H := H.2 t16
                                by_cases t17 : ((cd_sx X v3.toNatClampNeg) &&& 31) = 14
                                · replace H := H.1 t17
                                  rw [t17]
                                  refine cd_tabIn (tgt := 474) d_Law_law_42 (by decide) (by decide) rfl (by decide) ?_
                                  exact H
                                · replace H := H.2 t17
                                  by_cases t18 : ((cd_sx X v3.toNatClampNeg) &&& 31) = 15
                                  · replace H := H.1 t18
                                    rw [t18]
                                    refine cd_tabIn (tgt := 497) d_Law_law_42 (by decide) (by decide) rfl (by decide) ?_
                                    exact H
                                  · replace H := H.2 t18
                                    by_cases t19 : ((cd_sx X v3.toNatClampNeg) &&& 31) = 16
                                    · replace H := H.1 t19
                                      rw [t19]
                                      refine cd_tabIn (tgt := 520) d_Law_law_42 (by decide) (by decide) rfl (by decide) ?_
                                      exact H
                                    · replace H := H.2 t19
                                      by_cases t20 : ((cd_sx X v3.toNatClampNeg) &&& 31) = 17
                                      · replace H := H.1 t20
                                        rw [t20]
                                        refine cd_tabIn (tgt := 553) d_Law_law_42 (by decide) (by decide) rfl (by decide) ?_
                                        exact H
                                      · replace H := H.2 t20
                                        by_cases t21 : ((cd_sx X v3.toNatClampNeg) &&& 31) = 18
                                        · replace H := H.1 t21
                                          rw [t21]
                                          refine cd_tabIn (tgt := 576) d_Law_law_42 (by decide) (by decide) rfl (by decide) ?_
                                          exact H
                                        · replace H := H.2 t21
                                          have t22 := cd_sw t3 t4 t5 t6 t7 t8 t9 t10 t11 t12 t13 t14 t15 t16 t17 t18 t19 t20 t21
                                          refine cd_tabOut (tgt := 589) d_Law_law_42 t22 (by decide) ?_
                                          refine cd_iinc (i := 3) (v := (v3 + 5)) d_Law_law_589 rfl (cd_inc5 _) (by decide) ?_
                                          show cd_W X m_Law_law kc ks 592 [some (.ref 35), some (.ref 64), some (.ref 82), some (.int (v3 + 5))] [] h Q
                                          refine cd_goto (tgt := 28) d_Law_law_592 (by decide) ?_
                                          exact H

theorem d_Law_law_132 : decode code 132 = .ok (.aload_n 1, 1) := by decide +kernel
theorem d_Law_law_133 : decode code 133 = .ok (.aload_n 0, 1) := by decide +kernel
theorem d_Law_law_134 : decode code 134 = .ok (.iload_n 3, 1) := by decide +kernel
theorem d_Law_law_135 : decode code 135 = .ok (.iconst 1, 1) := by decide +kernel
theorem d_Law_law_136 : decode code 136 = .ok (.iadd, 1) := by decide +kernel
theorem d_Law_law_137 : decode code 137 = .ok (.iaload, 1) := by decide +kernel
theorem d_Law_law_138 : decode code 138 = .ok (.i2c, 1) := by decide +kernel
theorem d_Law_law_139 : decode code 139 = .ok (.invokevirtual 21, 3) := by decide +kernel
theorem kw_1_185 : (Jvm.Cond.methodLink "CertificateDeskLaw" (21 : Nat) ({ cls := "CertificateDesk", name := "write", desc := "(C)Z" } : Jvm.MethodName)) ∈ cd_tbl := tb_1 (List.mem_of_getElem? (i := 185) (by decide +kernel)) (by decide)
theorem kw_1_188 : (Jvm.Cond.code ({ cls := "CertificateDesk", name := "write", desc := "(C)Z" } : Jvm.MethodName) prog_1_method_2_code (2 : Nat) (Option.some Jvm.ClassFile.FieldType.boolean)) ∈ cd_tbl := tb_1 (List.mem_of_getElem? (i := 188) (by decide +kernel)) (by decide)
theorem kw_1_186 : (Jvm.Cond.instanceMethod ({ cls := "CertificateDesk", name := "write", desc := "(C)Z" } : Jvm.MethodName)) ∈ cd_tbl := tb_1 (List.mem_of_getElem? (i := 186) (by decide +kernel)) (by decide)
theorem kw_1_187 : (Jvm.Cond.selects "CertificateDesk" ({ cls := "CertificateDesk", name := "write", desc := "(C)Z" } : Jvm.MethodName) ({ cls := "CertificateDesk", name := "write", desc := "(C)Z" } : Jvm.MethodName)) ∈ cd_tbl := tb_1 (List.mem_of_getElem? (i := 187) (by decide +kernel)) (by decide)
theorem ca_Law_law_21 {X : cd_E} : cd_CV X m_Law_law m_Desk_write 21 1 0 := ⟨⟨by decide, kw_1_188, kw_1_1, ⟨by decide, by decide, by decide +kernel⟩, by decide, by decide⟩, ⟨_, rfl, rfl⟩, kw_1_186, kw_1_187, (Or.inl kw_1_185)⟩
theorem d_Law_law_142 : decode code 142 = .ok (.aload_n 2, 1) := by decide +kernel
theorem d_Law_law_143 : decode code 143 = .ok (.aload_n 0, 1) := by decide +kernel
theorem d_Law_law_144 : decode code 144 = .ok (.iload_n 3, 1) := by decide +kernel
theorem d_Law_law_145 : decode code 145 = .ok (.iconst 1, 1) := by decide +kernel
theorem d_Law_law_146 : decode code 146 = .ok (.iadd, 1) := by decide +kernel
theorem d_Law_law_147 : decode code 147 = .ok (.iaload, 1) := by decide +kernel
theorem d_Law_law_148 : decode code 148 = .ok (.i2c, 1) := by decide +kernel
theorem d_Law_law_149 : decode code 149 = .ok (.invokevirtual 25, 3) := by decide +kernel
theorem kw_5_163 : (Jvm.Cond.methodLink "CertificateDeskLaw" (25 : Nat) ({ cls := "CertificateDeskModel", name := "write", desc := "(C)Z" } : Jvm.MethodName)) ∈ cd_tbl := tb_5 (List.mem_of_getElem? (i := 163) (by decide +kernel)) (by decide)
theorem kw_5_166 : (Jvm.Cond.code ({ cls := "CertificateDeskModel", name := "write", desc := "(C)Z" } : Jvm.MethodName) prog_14_method_12_code (2 : Nat) (Option.some Jvm.ClassFile.FieldType.boolean)) ∈ cd_tbl := tb_5 (List.mem_of_getElem? (i := 166) (by decide +kernel)) (by decide)
theorem kw_5_164 : (Jvm.Cond.instanceMethod ({ cls := "CertificateDeskModel", name := "write", desc := "(C)Z" } : Jvm.MethodName)) ∈ cd_tbl := tb_5 (List.mem_of_getElem? (i := 164) (by decide +kernel)) (by decide)
theorem kw_5_165 : (Jvm.Cond.selects "CertificateDeskModel" ({ cls := "CertificateDeskModel", name := "write", desc := "(C)Z" } : Jvm.MethodName) ({ cls := "CertificateDeskModel", name := "write", desc := "(C)Z" } : Jvm.MethodName)) ∈ cd_tbl := tb_5 (List.mem_of_getElem? (i := 165) (by decide +kernel)) (by decide)
theorem ca_Law_law_25 {X : cd_E} : cd_CV X m_Law_law m_Mod_write 25 1 11 := ⟨⟨by decide, kw_5_166, kw_1_10, ⟨by decide, by decide, by decide +kernel⟩, by decide, by decide⟩, ⟨_, rfl, rfl⟩, kw_5_164, kw_5_165, (Or.inl kw_5_163)⟩
theorem d_Law_law_152 : decode code 152 = .ok (.if_icmp .eq 437, 3) := by decide +kernel
theorem d_Law_law_155 : decode code 155 = .ok (.iconst 0, 1) := by decide +kernel
theorem d_Law_law_156 : decode code 156 = .ok (.ireturn, 1) := by decide +kernel
theorem g_Law_law_132 {X : cd_E} {kc ks : Nat} {h : cd_H} {Q : Option Value → cd_H → Prop} {v3 : Int32} (H : (vp_in (v3 + 1) (cd_sL X)) ∧ ((cd_k h 64 = some (.inl 0)) ∧ (cd_W X m_Desk_write 0 0 0 [some (.ref 64), some (.int (((cd_sx X (v3 + 1).toNatClampNeg).toUInt32 % 65536).toInt32))] [] h (fun r3 h4 => ∃ x5 : Int32, r3 = some (.int x5) ∧ ((cd_k h4 82 = some (.inl 11)) ∧ (cd_W X m_Mod_write 0 0 0 [some (.ref 82), some (.int (((cd_sx X (v3 + 1).toNatClampNeg).toUInt32 % 65536).toInt32))] [] h4 (fun r7 h8 => ∃ x9 : Int32, r7 = some (.int x9) ∧ ((((x5 = x9) → (cd_W X m_Law_law kc ks 28 [some (.ref 35), some (.ref 64), some (.ref 82), some (.int (v3 + 5))] [] h8 Q)) ∧ ((¬ x5 = x9) → (Q (some (.int 0)) h8))))))))))) : cd_W X m_Law_law kc ks 132 [some (.ref 35), some (.ref 64), some (.ref 82), some (.int v3)] [] h Q := by
  refine cd_aload_n (i := 1) (v := .ref 64) d_Law_law_132 rfl rfl (cd_isr_ref _) ?_
  refine cd_aload_n (i := 0) (v := .ref 35) d_Law_law_133 rfl rfl (cd_isr_ref _) ?_
  show cd_W X m_Law_law kc ks 134 [some (.ref 35), some (.ref 64), some (.ref 82), some (.int v3)] [.ref 35, .ref 64] h Q
  refine cd_iload_n (i := 3) d_Law_law_134 rfl rfl ?_
  refine cd_iconst (v := 1) d_Law_law_135 (by decide) ?_
  refine cd_iadd d_Law_law_136 ?_
  obtain ⟨c1, H⟩ := H
  refine cd_sld (j := (v3 + 1)) d_Law_law_137 c1 ?_
  refine cd_i2c d_Law_law_138 ?_
  obtain ⟨c2, H⟩ := H
  refine cd_callV (kc := kc) (ks := ks) (kc' := 0) (ks' := 0) (As := [.int (((cd_sx X (v3 + 1).toNatClampNeg).toUInt32 % 65536).toInt32)]) (S := []) d_Law_law_139 ca_Law_law_21 c2 rfl (Nat.le_of_ble_eq_true rfl) (Nat.le_of_ble_eq_true rfl) ?_
  refine cd_W.mono (fun r3 h4 H => ?_) H
  obtain ⟨x5, rfl, H⟩ := H
  show cd_W X m_Law_law kc ks 142 [some (.ref 35), some (.ref 64), some (.ref 82), some (.int v3)] [.int x5] h4 Q
  refine cd_aload_n (i := 2) (v := .ref 82) d_Law_law_142 rfl rfl (cd_isr_ref _) ?_
  refine cd_aload_n (i := 0) (v := .ref 35) d_Law_law_143 rfl rfl (cd_isr_ref _) ?_
  show cd_W X m_Law_law kc ks 144 [some (.ref 35), some (.ref 64), some (.ref 82), some (.int v3)] [.ref 35, .ref 82, .int x5] h4 Q
  refine cd_iload_n (i := 3) d_Law_law_144 rfl rfl ?_
  refine cd_iconst (v := 1) d_Law_law_145 (by decide) ?_
  refine cd_iadd d_Law_law_146 ?_
  refine cd_sld (j := (v3 + 1)) d_Law_law_147 c1 ?_
  refine cd_i2c d_Law_law_148 ?_
  obtain ⟨c6, H⟩ := H
  refine cd_callV (kc := kc) (ks := ks) (kc' := 0) (ks' := 0) (As := [.int (((cd_sx X (v3 + 1).toNatClampNeg).toUInt32 % 65536).toInt32)]) (S := [.int x5]) d_Law_law_149 ca_Law_law_25 c6 rfl (Nat.le_of_ble_eq_true rfl) (Nat.le_of_ble_eq_true rfl) ?_
  refine cd_W.mono (fun r7 h8 H => ?_) H
  obtain ⟨x9, rfl, H⟩ := H
  show cd_W X m_Law_law kc ks 152 [some (.ref 35), some (.ref 64), some (.ref 82), some (.int v3)] [.int x9, .int x5] h8 Q
  refine cd_icmp_eq (tgt := 589) d_Law_law_152 (by decide) (fun t10 => ?_) (fun t10 => ?_)
  · replace H := H.1 t10
    refine cd_iinc (i := 3) (v := (v3 + 5)) d_Law_law_589 rfl (cd_inc5 _) (by decide) ?_
    show cd_W X m_Law_law kc ks 592 [some (.ref 35), some (.ref 64), some (.ref 82), some (.int (v3 + 5))] [] h8 Q
    refine cd_goto (tgt := 28) d_Law_law_592 (by decide) ?_
    exact H
  · replace H := H.2 t10
    refine cd_iconst (v := 0) d_Law_law_155 (by decide) ?_
    show cd_W X m_Law_law kc ks 156 [some (.ref 35), some (.ref 64), some (.ref 82), some (.int v3)] [.int 0] h8 Q
    exact cd_iret d_Law_law_156 rfl rfl H

theorem d_Law_law_157 : decode code 157 = .ok (.aload_n 1, 1) := by decide +kernel
theorem d_Law_law_158 : decode code 158 = .ok (.invokevirtual 26, 3) := by decide +kernel
theorem kw_1_193 : (Jvm.Cond.methodLink "CertificateDeskLaw" (26 : Nat) ({ cls := "CertificateDesk", name := "nonce", desc := "()I" } : Jvm.MethodName)) ∈ cd_tbl := tb_1 (List.mem_of_getElem? (i := 193) (by decide +kernel)) (by decide)
theorem kw_1_196 : (Jvm.Cond.code ({ cls := "CertificateDesk", name := "nonce", desc := "()I" } : Jvm.MethodName) prog_1_method_3_code (1 : Nat) (Option.some Jvm.ClassFile.FieldType.int)) ∈ cd_tbl := tb_1 (List.mem_of_getElem? (i := 196) (by decide +kernel)) (by decide)
theorem kw_1_194 : (Jvm.Cond.instanceMethod ({ cls := "CertificateDesk", name := "nonce", desc := "()I" } : Jvm.MethodName)) ∈ cd_tbl := tb_1 (List.mem_of_getElem? (i := 194) (by decide +kernel)) (by decide)
theorem kw_1_195 : (Jvm.Cond.selects "CertificateDesk" ({ cls := "CertificateDesk", name := "nonce", desc := "()I" } : Jvm.MethodName) ({ cls := "CertificateDesk", name := "nonce", desc := "()I" } : Jvm.MethodName)) ∈ cd_tbl := tb_1 (List.mem_of_getElem? (i := 195) (by decide +kernel)) (by decide)
theorem ca_Law_law_26 {X : cd_E} : cd_CV X m_Law_law m_Desk_nonce 26 0 0 := ⟨⟨by decide, kw_1_196, kw_1_1, ⟨by decide, by decide, by decide +kernel⟩, by decide, by decide⟩, ⟨_, rfl, rfl⟩, kw_1_194, kw_1_195, (Or.inl kw_1_193)⟩
theorem d_Law_law_161 : decode code 161 = .ok (.aload_n 2, 1) := by decide +kernel
theorem d_Law_law_162 : decode code 162 = .ok (.invokevirtual 30, 3) := by decide +kernel
theorem kw_5_188 : (Jvm.Cond.methodLink "CertificateDeskLaw" (30 : Nat) ({ cls := "CertificateDeskModel", name := "nonce", desc := "()I" } : Jvm.MethodName)) ∈ cd_tbl := tb_5 (List.mem_of_getElem? (i := 188) (by decide +kernel)) (by decide)
theorem kw_5_191 : (Jvm.Cond.code ({ cls := "CertificateDeskModel", name := "nonce", desc := "()I" } : Jvm.MethodName) prog_14_method_34_code (1 : Nat) (Option.some Jvm.ClassFile.FieldType.int)) ∈ cd_tbl := tb_5 (List.mem_of_getElem? (i := 191) (by decide +kernel)) (by decide)
theorem kw_5_189 : (Jvm.Cond.instanceMethod ({ cls := "CertificateDeskModel", name := "nonce", desc := "()I" } : Jvm.MethodName)) ∈ cd_tbl := tb_5 (List.mem_of_getElem? (i := 189) (by decide +kernel)) (by decide)
theorem kw_5_190 : (Jvm.Cond.selects "CertificateDeskModel" ({ cls := "CertificateDeskModel", name := "nonce", desc := "()I" } : Jvm.MethodName) ({ cls := "CertificateDeskModel", name := "nonce", desc := "()I" } : Jvm.MethodName)) ∈ cd_tbl := tb_5 (List.mem_of_getElem? (i := 190) (by decide +kernel)) (by decide)
theorem ca_Law_law_30 {X : cd_E} : cd_CV X m_Law_law m_Mod_nonce 30 0 11 := ⟨⟨by decide, kw_5_191, kw_1_10, ⟨by decide, by decide, by decide +kernel⟩, by decide, by decide⟩, ⟨_, rfl, rfl⟩, kw_5_189, kw_5_190, (Or.inl kw_5_188)⟩
theorem d_Law_law_165 : decode code 165 = .ok (.if_icmp .eq 424, 3) := by decide +kernel
theorem d_Law_law_168 : decode code 168 = .ok (.iconst 0, 1) := by decide +kernel
theorem d_Law_law_169 : decode code 169 = .ok (.ireturn, 1) := by decide +kernel
theorem g_Law_law_157 {X : cd_E} {kc ks : Nat} {h : cd_H} {Q : Option Value → cd_H → Prop} {v3 : Int32} (H : (cd_k h 64 = some (.inl 0)) ∧ (cd_W X m_Desk_nonce 0 0 0 [some (.ref 64)] [] h (fun r2 h3 => ∃ x4 : Int32, r2 = some (.int x4) ∧ ((cd_k h3 82 = some (.inl 11)) ∧ (cd_W X m_Mod_nonce 0 0 0 [some (.ref 82)] [] h3 (fun r6 h7 => ∃ x8 : Int32, r6 = some (.int x8) ∧ ((((x4 = x8) → (cd_W X m_Law_law kc ks 28 [some (.ref 35), some (.ref 64), some (.ref 82), some (.int (v3 + 5))] [] h7 Q)) ∧ ((¬ x4 = x8) → (Q (some (.int 0)) h7)))))))))) : cd_W X m_Law_law kc ks 157 [some (.ref 35), some (.ref 64), some (.ref 82), some (.int v3)] [] h Q := by
  refine cd_aload_n (i := 1) (v := .ref 64) d_Law_law_157 rfl rfl (cd_isr_ref _) ?_
  obtain ⟨c1, H⟩ := H
  refine cd_callV (kc := kc) (ks := ks) (kc' := 0) (ks' := 0) (As := []) (S := []) d_Law_law_158 ca_Law_law_26 c1 rfl (Nat.le_of_ble_eq_true rfl) (Nat.le_of_ble_eq_true rfl) ?_
  refine cd_W.mono (fun r2 h3 H => ?_) H
  obtain ⟨x4, rfl, H⟩ := H
  show cd_W X m_Law_law kc ks 161 [some (.ref 35), some (.ref 64), some (.ref 82), some (.int v3)] [.int x4] h3 Q
  refine cd_aload_n (i := 2) (v := .ref 82) d_Law_law_161 rfl rfl (cd_isr_ref _) ?_
  obtain ⟨c5, H⟩ := H
  refine cd_callV (kc := kc) (ks := ks) (kc' := 0) (ks' := 0) (As := []) (S := [.int x4]) d_Law_law_162 ca_Law_law_30 c5 rfl (Nat.le_of_ble_eq_true rfl) (Nat.le_of_ble_eq_true rfl) ?_
  refine cd_W.mono (fun r6 h7 H => ?_) H
  obtain ⟨x8, rfl, H⟩ := H
  show cd_W X m_Law_law kc ks 165 [some (.ref 35), some (.ref 64), some (.ref 82), some (.int v3)] [.int x8, .int x4] h7 Q
  refine cd_icmp_eq (tgt := 589) d_Law_law_165 (by decide) (fun t9 => ?_) (fun t9 => ?_)
  · replace H := H.1 t9
    refine cd_iinc (i := 3) (v := (v3 + 5)) d_Law_law_589 rfl (cd_inc5 _) (by decide) ?_
    show cd_W X m_Law_law kc ks 592 [some (.ref 35), some (.ref 64), some (.ref 82), some (.int (v3 + 5))] [] h7 Q
    refine cd_goto (tgt := 28) d_Law_law_592 (by decide) ?_
    exact H
  · replace H := H.2 t9
    refine cd_iconst (v := 0) d_Law_law_168 (by decide) ?_
    show cd_W X m_Law_law kc ks 169 [some (.ref 35), some (.ref 64), some (.ref 82), some (.int v3)] [.int 0] h7 Q
    exact cd_iret d_Law_law_169 rfl rfl H

theorem d_Law_law_170 : decode code 170 = .ok (.aload_n 1, 1) := by decide +kernel
theorem d_Law_law_171 : decode code 171 = .ok (.aload_n 0, 1) := by decide +kernel
theorem d_Law_law_172 : decode code 172 = .ok (.iload_n 3, 1) := by decide +kernel
theorem d_Law_law_173 : decode code 173 = .ok (.iconst 1, 1) := by decide +kernel
theorem d_Law_law_174 : decode code 174 = .ok (.iadd, 1) := by decide +kernel
theorem d_Law_law_175 : decode code 175 = .ok (.iaload, 1) := by decide +kernel
theorem d_Law_law_176 : decode code 176 = .ok (.aload_n 0, 1) := by decide +kernel
theorem d_Law_law_177 : decode code 177 = .ok (.iload_n 3, 1) := by decide +kernel
theorem d_Law_law_178 : decode code 178 = .ok (.iconst 2, 1) := by decide +kernel
theorem d_Law_law_179 : decode code 179 = .ok (.iadd, 1) := by decide +kernel
theorem d_Law_law_180 : decode code 180 = .ok (.iaload, 1) := by decide +kernel
theorem d_Law_law_181 : decode code 181 = .ok (.aload_n 0, 1) := by decide +kernel
theorem d_Law_law_182 : decode code 182 = .ok (.iload_n 3, 1) := by decide +kernel
theorem d_Law_law_183 : decode code 183 = .ok (.iconst 3, 1) := by decide +kernel
theorem d_Law_law_184 : decode code 184 = .ok (.iadd, 1) := by decide +kernel
theorem d_Law_law_185 : decode code 185 = .ok (.iaload, 1) := by decide +kernel
theorem d_Law_law_186 : decode code 186 = .ok (.aload_n 0, 1) := by decide +kernel
theorem d_Law_law_187 : decode code 187 = .ok (.iload_n 3, 1) := by decide +kernel
theorem d_Law_law_188 : decode code 188 = .ok (.iconst 4, 1) := by decide +kernel
theorem d_Law_law_189 : decode code 189 = .ok (.iadd, 1) := by decide +kernel
theorem d_Law_law_190 : decode code 190 = .ok (.iaload, 1) := by decide +kernel
theorem d_Law_law_191 : decode code 191 = .ok (.invokevirtual 31, 3) := by decide +kernel
theorem kw_1_201 : (Jvm.Cond.methodLink "CertificateDeskLaw" (31 : Nat) ({ cls := "CertificateDesk", name := "request", desc := "(IIII)I" } : Jvm.MethodName)) ∈ cd_tbl := tb_1 (List.mem_of_getElem? (i := 201) (by decide +kernel)) (by decide)
theorem kw_1_204 : (Jvm.Cond.code ({ cls := "CertificateDesk", name := "request", desc := "(IIII)I" } : Jvm.MethodName) prog_1_method_4_code (7 : Nat) (Option.some Jvm.ClassFile.FieldType.int)) ∈ cd_tbl := tb_1 (List.mem_of_getElem? (i := 204) (by decide +kernel)) (by decide)
theorem kw_1_202 : (Jvm.Cond.instanceMethod ({ cls := "CertificateDesk", name := "request", desc := "(IIII)I" } : Jvm.MethodName)) ∈ cd_tbl := tb_1 (List.mem_of_getElem? (i := 202) (by decide +kernel)) (by decide)
theorem kw_1_203 : (Jvm.Cond.selects "CertificateDesk" ({ cls := "CertificateDesk", name := "request", desc := "(IIII)I" } : Jvm.MethodName) ({ cls := "CertificateDesk", name := "request", desc := "(IIII)I" } : Jvm.MethodName)) ∈ cd_tbl := tb_1 (List.mem_of_getElem? (i := 203) (by decide +kernel)) (by decide)
theorem ca_Law_law_31 {X : cd_E} : cd_CV X m_Law_law m_Desk_request 31 4 0 := ⟨⟨by decide, kw_1_204, kw_1_1, ⟨by decide, by decide, by decide +kernel⟩, by decide, by decide⟩, ⟨_, rfl, rfl⟩, kw_1_202, kw_1_203, (Or.inl kw_1_201)⟩
theorem d_Law_law_194 : decode code 194 = .ok (.aload_n 2, 1) := by decide +kernel
theorem d_Law_law_195 : decode code 195 = .ok (.aload_n 0, 1) := by decide +kernel
theorem d_Law_law_196 : decode code 196 = .ok (.iload_n 3, 1) := by decide +kernel
theorem d_Law_law_197 : decode code 197 = .ok (.iconst 1, 1) := by decide +kernel
theorem d_Law_law_198 : decode code 198 = .ok (.iadd, 1) := by decide +kernel
theorem d_Law_law_199 : decode code 199 = .ok (.iaload, 1) := by decide +kernel
theorem d_Law_law_200 : decode code 200 = .ok (.aload_n 0, 1) := by decide +kernel
theorem d_Law_law_201 : decode code 201 = .ok (.iload_n 3, 1) := by decide +kernel
theorem d_Law_law_202 : decode code 202 = .ok (.iconst 2, 1) := by decide +kernel
theorem d_Law_law_203 : decode code 203 = .ok (.iadd, 1) := by decide +kernel
theorem d_Law_law_204 : decode code 204 = .ok (.iaload, 1) := by decide +kernel
theorem d_Law_law_205 : decode code 205 = .ok (.aload_n 0, 1) := by decide +kernel
theorem d_Law_law_206 : decode code 206 = .ok (.iload_n 3, 1) := by decide +kernel
theorem d_Law_law_207 : decode code 207 = .ok (.iconst 3, 1) := by decide +kernel
theorem d_Law_law_208 : decode code 208 = .ok (.iadd, 1) := by decide +kernel
theorem d_Law_law_209 : decode code 209 = .ok (.iaload, 1) := by decide +kernel
theorem d_Law_law_210 : decode code 210 = .ok (.aload_n 0, 1) := by decide +kernel
theorem d_Law_law_211 : decode code 211 = .ok (.iload_n 3, 1) := by decide +kernel
theorem d_Law_law_212 : decode code 212 = .ok (.iconst 4, 1) := by decide +kernel
theorem d_Law_law_213 : decode code 213 = .ok (.iadd, 1) := by decide +kernel
theorem d_Law_law_214 : decode code 214 = .ok (.iaload, 1) := by decide +kernel
theorem d_Law_law_215 : decode code 215 = .ok (.invokevirtual 35, 3) := by decide +kernel
theorem kw_5_192 : (Jvm.Cond.methodLink "CertificateDeskLaw" (35 : Nat) ({ cls := "CertificateDeskModel", name := "request", desc := "(IIII)I" } : Jvm.MethodName)) ∈ cd_tbl := tb_5 (List.mem_of_getElem? (i := 192) (by decide +kernel)) (by decide)
theorem kw_5_195 : (Jvm.Cond.code ({ cls := "CertificateDeskModel", name := "request", desc := "(IIII)I" } : Jvm.MethodName) prog_14_method_36_code (6 : Nat) (Option.some Jvm.ClassFile.FieldType.int)) ∈ cd_tbl := tb_5 (List.mem_of_getElem? (i := 195) (by decide +kernel)) (by decide)
theorem kw_5_193 : (Jvm.Cond.instanceMethod ({ cls := "CertificateDeskModel", name := "request", desc := "(IIII)I" } : Jvm.MethodName)) ∈ cd_tbl := tb_5 (List.mem_of_getElem? (i := 193) (by decide +kernel)) (by decide)
theorem kw_5_194 : (Jvm.Cond.selects "CertificateDeskModel" ({ cls := "CertificateDeskModel", name := "request", desc := "(IIII)I" } : Jvm.MethodName) ({ cls := "CertificateDeskModel", name := "request", desc := "(IIII)I" } : Jvm.MethodName)) ∈ cd_tbl := tb_5 (List.mem_of_getElem? (i := 194) (by decide +kernel)) (by decide)
theorem ca_Law_law_35 {X : cd_E} : cd_CV X m_Law_law m_Mod_request 35 4 11 := ⟨⟨by decide, kw_5_195, kw_1_10, ⟨by decide, by decide, by decide +kernel⟩, by decide, by decide⟩, ⟨_, rfl, rfl⟩, kw_5_193, kw_5_194, (Or.inl kw_5_192)⟩
theorem d_Law_law_218 : decode code 218 = .ok (.if_icmp .eq 371, 3) := by decide +kernel
theorem d_Law_law_221 : decode code 221 = .ok (.iconst 0, 1) := by decide +kernel
theorem d_Law_law_222 : decode code 222 = .ok (.ireturn, 1) := by decide +kernel
theorem g_Law_law_170 {X : cd_E} {kc ks : Nat} {h : cd_H} {Q : Option Value → cd_H → Prop} {v3 : Int32} (H : (vp_in (v3 + 1) (cd_sL X)) ∧ ((vp_in (v3 + 2) (cd_sL X)) ∧ ((vp_in (v3 + 3) (cd_sL X)) ∧ ((vp_in (v3 + 4) (cd_sL X)) ∧ ((cd_k h 64 = some (.inl 0)) ∧ (cd_W X m_Desk_request 81 2240 0 [some (.ref 64), some (.int (cd_sx X (v3 + 1).toNatClampNeg)), some (.int (cd_sx X (v3 + 2).toNatClampNeg)), some (.int (cd_sx X (v3 + 3).toNatClampNeg)), some (.int (cd_sx X (v3 + 4).toNatClampNeg)), none, none] [] h (fun r6 h7 => ∃ x8 : Int32, r6 = some (.int x8) ∧ ((cd_k h7 82 = some (.inl 11)) ∧ (cd_W X m_Mod_request 0 0 0 [some (.ref 82), some (.int (cd_sx X (v3 + 1).toNatClampNeg)), some (.int (cd_sx X (v3 + 2).toNatClampNeg)), some (.int (cd_sx X (v3 + 3).toNatClampNeg)), some (.int (cd_sx X (v3 + 4).toNatClampNeg)), none] [] h7 (fun r10 h11 => ∃ x12 : Int32, r10 = some (.int x12) ∧ ((((x8 = x12) → (cd_W X m_Law_law kc ks 28 [some (.ref 35), some (.ref 64), some (.ref 82), some (.int (v3 + 5))] [] h11 Q)) ∧ ((¬ x8 = x12) → (Q (some (.int 0)) h11)))))))))))))) : cd_W X m_Law_law (kc + 81) (ks + 2240) 170 [some (.ref 35), some (.ref 64), some (.ref 82), some (.int v3)] [] h Q := by
  refine cd_aload_n (i := 1) (v := .ref 64) d_Law_law_170 rfl rfl (cd_isr_ref _) ?_
  refine cd_aload_n (i := 0) (v := .ref 35) d_Law_law_171 rfl rfl (cd_isr_ref _) ?_
  refine cd_iload_n (i := 3) d_Law_law_172 rfl rfl ?_
  refine cd_iconst (v := 1) d_Law_law_173 (by decide) ?_
  refine cd_iadd d_Law_law_174 ?_
  obtain ⟨c1, H⟩ := H
  refine cd_sld (j := (v3 + 1)) d_Law_law_175 c1 ?_
  refine cd_aload_n (i := 0) (v := .ref 35) d_Law_law_176 rfl rfl (cd_isr_ref _) ?_
  show cd_W X m_Law_law (kc + 81) (ks + 2240) 177 [some (.ref 35), some (.ref 64), some (.ref 82), some (.int v3)] [.ref 35, .int (cd_sx X (v3 + 1).toNatClampNeg), .ref 64] h Q
  refine cd_iload_n (i := 3) d_Law_law_177 rfl rfl ?_
  refine cd_iconst (v := 2) d_Law_law_178 (by decide) ?_
  refine cd_iadd d_Law_law_179 ?_
  obtain ⟨c2, H⟩ := H
  refine cd_sld (j := (v3 + 2)) d_Law_law_180 c2 ?_
  refine cd_aload_n (i := 0) (v := .ref 35) d_Law_law_181 rfl rfl (cd_isr_ref _) ?_
  refine cd_iload_n (i := 3) d_Law_law_182 rfl rfl ?_
  refine cd_iconst (v := 3) d_Law_law_183 (by decide) ?_
  refine cd_iadd d_Law_law_184 ?_
  show cd_W X m_Law_law (kc + 81) (ks + 2240) 185 [some (.ref 35), some (.ref 64), some (.ref 82), some (.int v3)] [.int (v3 + 3), .ref 35, .int (cd_sx X (v3 + 2).toNatClampNeg), .int (cd_sx X (v3 + 1).toNatClampNeg), .ref 64] h Q
  obtain ⟨c3, H⟩ := H
  refine cd_sld (j := (v3 + 3)) d_Law_law_185 c3 ?_
  refine cd_aload_n (i := 0) (v := .ref 35) d_Law_law_186 rfl rfl (cd_isr_ref _) ?_
  refine cd_iload_n (i := 3) d_Law_law_187 rfl rfl ?_
  refine cd_iconst (v := 4) d_Law_law_188 (by decide) ?_
  refine cd_iadd d_Law_law_189 ?_
  obtain ⟨c4, H⟩ := H
  refine cd_sld (j := (v3 + 4)) d_Law_law_190 c4 ?_
  obtain ⟨c5, H⟩ := H
  refine cd_callV (kc := (kc + 0)) (ks := (ks + 0)) (kc' := 81) (ks' := 2240) (As := [.int (cd_sx X (v3 + 1).toNatClampNeg), .int (cd_sx X (v3 + 2).toNatClampNeg), .int (cd_sx X (v3 + 3).toNatClampNeg), .int (cd_sx X (v3 + 4).toNatClampNeg)]) (S := []) d_Law_law_191 ca_Law_law_31 c5 rfl (Nat.le_of_ble_eq_true rfl) (Nat.le_of_ble_eq_true rfl) ?_
  refine cd_W.mono (fun r6 h7 H => ?_) H
  obtain ⟨x8, rfl, H⟩ := H
  show cd_W X m_Law_law (kc + 0) (ks + 0) 194 [some (.ref 35), some (.ref 64), some (.ref 82), some (.int v3)] [.int x8] h7 Q
  refine cd_aload_n (i := 2) (v := .ref 82) d_Law_law_194 rfl rfl (cd_isr_ref _) ?_
  show cd_W X m_Law_law (kc + 0) (ks + 0) 195 [some (.ref 35), some (.ref 64), some (.ref 82), some (.int v3)] [.ref 82, .int x8] h7 Q
  refine cd_aload_n (i := 0) (v := .ref 35) d_Law_law_195 rfl rfl (cd_isr_ref _) ?_
  refine cd_iload_n (i := 3) d_Law_law_196 rfl rfl ?_
  refine cd_iconst (v := 1) d_Law_law_197 (by decide) ?_
  refine cd_iadd d_Law_law_198 ?_
  refine cd_sld (j := (v3 + 1)) d_Law_law_199 c1 ?_
  refine cd_aload_n (i := 0) (v := .ref 35) d_Law_law_200 rfl rfl (cd_isr_ref _) ?_
  refine cd_iload_n (i := 3) d_Law_law_201 rfl rfl ?_
  refine cd_iconst (v := 2) d_Law_law_202 (by decide) ?_
  show cd_W X m_Law_law (kc + 0) (ks + 0) 203 [some (.ref 35), some (.ref 64), some (.ref 82), some (.int v3)] [.int 2, .int v3, .ref 35, .int (cd_sx X (v3 + 1).toNatClampNeg), .ref 82, .int x8] h7 Q
  refine cd_iadd d_Law_law_203 ?_
  refine cd_sld (j := (v3 + 2)) d_Law_law_204 c2 ?_
  refine cd_aload_n (i := 0) (v := .ref 35) d_Law_law_205 rfl rfl (cd_isr_ref _) ?_
  refine cd_iload_n (i := 3) d_Law_law_206 rfl rfl ?_
  refine cd_iconst (v := 3) d_Law_law_207 (by decide) ?_
  refine cd_iadd d_Law_law_208 ?_
  refine cd_sld (j := (v3 + 3)) d_Law_law_209 c3 ?_
  refine cd_aload_n (i := 0) (v := .ref 35) d_Law_law_210 rfl rfl (cd_isr_ref _) ?_
  show cd_W X m_Law_law (kc + 0) (ks + 0) 211 [some (.ref 35), some (.ref 64), some (.ref 82), some (.int v3)] [.ref 35, .int (cd_sx X (v3 + 3).toNatClampNeg), .int (cd_sx X (v3 + 2).toNatClampNeg), .int (cd_sx X (v3 + 1).toNatClampNeg), .ref 82, .int x8] h7 Q
  refine cd_iload_n (i := 3) d_Law_law_211 rfl rfl ?_
  refine cd_iconst (v := 4) d_Law_law_212 (by decide) ?_
  refine cd_iadd d_Law_law_213 ?_
  refine cd_sld (j := (v3 + 4)) d_Law_law_214 c4 ?_
  obtain ⟨c9, H⟩ := H
  refine cd_callV (kc := (kc + 0)) (ks := (ks + 0)) (kc' := 0) (ks' := 0) (As := [.int (cd_sx X (v3 + 1).toNatClampNeg), .int (cd_sx X (v3 + 2).toNatClampNeg), .int (cd_sx X (v3 + 3).toNatClampNeg), .int (cd_sx X (v3 + 4).toNatClampNeg)]) (S := [.int x8]) d_Law_law_215 ca_Law_law_35 c9 rfl (Nat.le_of_ble_eq_true rfl) (Nat.le_of_ble_eq_true rfl) ?_
  refine cd_W.mono (fun r10 h11 H => ?_) H
  obtain ⟨x12, rfl, H⟩ := H
  show cd_W X m_Law_law (kc + 0) (ks + 0) 218 [some (.ref 35), some (.ref 64), some (.ref 82), some (.int v3)] [.int x12, .int x8] h11 Q
  refine cd_icmp_eq (tgt := 589) d_Law_law_218 (by decide) (fun t13 => ?_) (fun t13 => ?_)
  · replace H := H.1 t13
    refine cd_iinc (i := 3) (v := (v3 + 5)) d_Law_law_589 rfl (cd_inc5 _) (by decide) ?_
    show cd_W X m_Law_law (kc + 0) (ks + 0) 592 [some (.ref 35), some (.ref 64), some (.ref 82), some (.int (v3 + 5))] [] h11 Q
    refine cd_goto (tgt := 28) d_Law_law_592 (by decide) ?_
    refine cd_W.budget (kc := kc) (ks := ks) (by omega) (by omega) ?_
    exact H
  · replace H := H.2 t13
    refine cd_iconst (v := 0) d_Law_law_221 (by decide) ?_
    show cd_W X m_Law_law (kc + 0) (ks + 0) 222 [some (.ref 35), some (.ref 64), some (.ref 82), some (.int v3)] [.int 0] h11 Q
    exact cd_iret d_Law_law_222 rfl rfl H

theorem d_Law_law_223 : decode code 223 = .ok (.aload_n 1, 1) := by decide +kernel
theorem d_Law_law_224 : decode code 224 = .ok (.invokevirtual 36, 3) := by decide +kernel
theorem kw_4_158 : (Jvm.Cond.methodLink "CertificateDeskLaw" (36 : Nat) ({ cls := "CertificateDesk", name := "signature", desc := "()I" } : Jvm.MethodName)) ∈ cd_tbl := tb_4 (List.mem_of_getElem? (i := 158) (by decide +kernel)) (by decide)
theorem kw_4_161 : (Jvm.Cond.code ({ cls := "CertificateDesk", name := "signature", desc := "()I" } : Jvm.MethodName) prog_1_method_5_code (1 : Nat) (Option.some Jvm.ClassFile.FieldType.int)) ∈ cd_tbl := tb_4 (List.mem_of_getElem? (i := 161) (by decide +kernel)) (by decide)
theorem kw_4_159 : (Jvm.Cond.instanceMethod ({ cls := "CertificateDesk", name := "signature", desc := "()I" } : Jvm.MethodName)) ∈ cd_tbl := tb_4 (List.mem_of_getElem? (i := 159) (by decide +kernel)) (by decide)
theorem kw_4_160 : (Jvm.Cond.selects "CertificateDesk" ({ cls := "CertificateDesk", name := "signature", desc := "()I" } : Jvm.MethodName) ({ cls := "CertificateDesk", name := "signature", desc := "()I" } : Jvm.MethodName)) ∈ cd_tbl := tb_4 (List.mem_of_getElem? (i := 160) (by decide +kernel)) (by decide)
theorem ca_Law_law_36 {X : cd_E} : cd_CV X m_Law_law m_Desk_signature 36 0 0 := ⟨⟨by decide, kw_4_161, kw_1_1, ⟨by decide, by decide, by decide +kernel⟩, by decide, by decide⟩, ⟨_, rfl, rfl⟩, kw_4_159, kw_4_160, (Or.inl kw_4_158)⟩
theorem d_Law_law_227 : decode code 227 = .ok (.aload_n 2, 1) := by decide +kernel
theorem d_Law_law_228 : decode code 228 = .ok (.invokevirtual 39, 3) := by decide +kernel
theorem kw_6_119 : (Jvm.Cond.methodLink "CertificateDeskLaw" (39 : Nat) ({ cls := "CertificateDeskModel", name := "signature", desc := "()I" } : Jvm.MethodName)) ∈ cd_tbl := tb_6 (List.mem_of_getElem? (i := 119) (by decide +kernel)) (by decide)
theorem kw_6_122 : (Jvm.Cond.code ({ cls := "CertificateDeskModel", name := "signature", desc := "()I" } : Jvm.MethodName) prog_14_method_47_code (1 : Nat) (Option.some Jvm.ClassFile.FieldType.int)) ∈ cd_tbl := tb_6 (List.mem_of_getElem? (i := 122) (by decide +kernel)) (by decide)
theorem kw_6_120 : (Jvm.Cond.instanceMethod ({ cls := "CertificateDeskModel", name := "signature", desc := "()I" } : Jvm.MethodName)) ∈ cd_tbl := tb_6 (List.mem_of_getElem? (i := 120) (by decide +kernel)) (by decide)
theorem kw_6_121 : (Jvm.Cond.selects "CertificateDeskModel" ({ cls := "CertificateDeskModel", name := "signature", desc := "()I" } : Jvm.MethodName) ({ cls := "CertificateDeskModel", name := "signature", desc := "()I" } : Jvm.MethodName)) ∈ cd_tbl := tb_6 (List.mem_of_getElem? (i := 121) (by decide +kernel)) (by decide)
theorem ca_Law_law_39 {X : cd_E} : cd_CV X m_Law_law m_Mod_signature 39 0 11 := ⟨⟨by decide, kw_6_122, kw_1_10, ⟨by decide, by decide, by decide +kernel⟩, by decide, by decide⟩, ⟨_, rfl, rfl⟩, kw_6_120, kw_6_121, (Or.inl kw_6_119)⟩
theorem d_Law_law_231 : decode code 231 = .ok (.if_icmp .eq 358, 3) := by decide +kernel
theorem d_Law_law_234 : decode code 234 = .ok (.iconst 0, 1) := by decide +kernel
theorem d_Law_law_235 : decode code 235 = .ok (.ireturn, 1) := by decide +kernel
theorem g_Law_law_223 {X : cd_E} {kc ks : Nat} {h : cd_H} {Q : Option Value → cd_H → Prop} {v3 : Int32} (H : (cd_k h 64 = some (.inl 0)) ∧ (cd_W X m_Desk_signature 0 0 0 [some (.ref 64)] [] h (fun r2 h3 => ∃ x4 : Int32, r2 = some (.int x4) ∧ ((cd_k h3 82 = some (.inl 11)) ∧ (cd_W X m_Mod_signature 0 0 0 [some (.ref 82)] [] h3 (fun r6 h7 => ∃ x8 : Int32, r6 = some (.int x8) ∧ ((((x4 = x8) → (cd_W X m_Law_law kc ks 28 [some (.ref 35), some (.ref 64), some (.ref 82), some (.int (v3 + 5))] [] h7 Q)) ∧ ((¬ x4 = x8) → (Q (some (.int 0)) h7)))))))))) : cd_W X m_Law_law kc ks 223 [some (.ref 35), some (.ref 64), some (.ref 82), some (.int v3)] [] h Q := by
  refine cd_aload_n (i := 1) (v := .ref 64) d_Law_law_223 rfl rfl (cd_isr_ref _) ?_
  obtain ⟨c1, H⟩ := H
  refine cd_callV (kc := kc) (ks := ks) (kc' := 0) (ks' := 0) (As := []) (S := []) d_Law_law_224 ca_Law_law_36 c1 rfl (Nat.le_of_ble_eq_true rfl) (Nat.le_of_ble_eq_true rfl) ?_
  refine cd_W.mono (fun r2 h3 H => ?_) H
  obtain ⟨x4, rfl, H⟩ := H
  show cd_W X m_Law_law kc ks 227 [some (.ref 35), some (.ref 64), some (.ref 82), some (.int v3)] [.int x4] h3 Q
  refine cd_aload_n (i := 2) (v := .ref 82) d_Law_law_227 rfl rfl (cd_isr_ref _) ?_
  obtain ⟨c5, H⟩ := H
  refine cd_callV (kc := kc) (ks := ks) (kc' := 0) (ks' := 0) (As := []) (S := [.int x4]) d_Law_law_228 ca_Law_law_39 c5 rfl (Nat.le_of_ble_eq_true rfl) (Nat.le_of_ble_eq_true rfl) ?_
  refine cd_W.mono (fun r6 h7 H => ?_) H
  obtain ⟨x8, rfl, H⟩ := H
  show cd_W X m_Law_law kc ks 231 [some (.ref 35), some (.ref 64), some (.ref 82), some (.int v3)] [.int x8, .int x4] h7 Q
  refine cd_icmp_eq (tgt := 589) d_Law_law_231 (by decide) (fun t9 => ?_) (fun t9 => ?_)
  · replace H := H.1 t9
    refine cd_iinc (i := 3) (v := (v3 + 5)) d_Law_law_589 rfl (cd_inc5 _) (by decide) ?_
    show cd_W X m_Law_law kc ks 592 [some (.ref 35), some (.ref 64), some (.ref 82), some (.int (v3 + 5))] [] h7 Q
    refine cd_goto (tgt := 28) d_Law_law_592 (by decide) ?_
    exact H
  · replace H := H.2 t9
    refine cd_iconst (v := 0) d_Law_law_234 (by decide) ?_
    show cd_W X m_Law_law kc ks 235 [some (.ref 35), some (.ref 64), some (.ref 82), some (.int v3)] [.int 0] h7 Q
    exact cd_iret d_Law_law_235 rfl rfl H

theorem d_Law_law_236 : decode code 236 = .ok (.aload_n 1, 1) := by decide +kernel
theorem d_Law_law_237 : decode code 237 = .ok (.aload_n 0, 1) := by decide +kernel
theorem d_Law_law_238 : decode code 238 = .ok (.iload_n 3, 1) := by decide +kernel
theorem d_Law_law_239 : decode code 239 = .ok (.iconst 1, 1) := by decide +kernel
theorem d_Law_law_240 : decode code 240 = .ok (.iadd, 1) := by decide +kernel
theorem d_Law_law_241 : decode code 241 = .ok (.iaload, 1) := by decide +kernel
theorem d_Law_law_242 : decode code 242 = .ok (.aload_n 0, 1) := by decide +kernel
theorem d_Law_law_243 : decode code 243 = .ok (.iload_n 3, 1) := by decide +kernel
theorem d_Law_law_244 : decode code 244 = .ok (.iconst 2, 1) := by decide +kernel
theorem d_Law_law_245 : decode code 245 = .ok (.iadd, 1) := by decide +kernel
theorem d_Law_law_246 : decode code 246 = .ok (.iaload, 1) := by decide +kernel
theorem d_Law_law_247 : decode code 247 = .ok (.aload_n 0, 1) := by decide +kernel
theorem d_Law_law_248 : decode code 248 = .ok (.iload_n 3, 1) := by decide +kernel
theorem d_Law_law_249 : decode code 249 = .ok (.iconst 3, 1) := by decide +kernel
theorem d_Law_law_250 : decode code 250 = .ok (.iadd, 1) := by decide +kernel
theorem d_Law_law_251 : decode code 251 = .ok (.iaload, 1) := by decide +kernel
theorem d_Law_law_252 : decode code 252 = .ok (.invokevirtual 40, 3) := by decide +kernel
theorem kw_4_162 : (Jvm.Cond.methodLink "CertificateDeskLaw" (40 : Nat) ({ cls := "CertificateDesk", name := "publish", desc := "(III)Z" } : Jvm.MethodName)) ∈ cd_tbl := tb_4 (List.mem_of_getElem? (i := 162) (by decide +kernel)) (by decide)
theorem kw_4_165 : (Jvm.Cond.code ({ cls := "CertificateDesk", name := "publish", desc := "(III)Z" } : Jvm.MethodName) prog_1_method_6_code (6 : Nat) (Option.some Jvm.ClassFile.FieldType.boolean)) ∈ cd_tbl := tb_4 (List.mem_of_getElem? (i := 165) (by decide +kernel)) (by decide)
theorem kw_4_163 : (Jvm.Cond.instanceMethod ({ cls := "CertificateDesk", name := "publish", desc := "(III)Z" } : Jvm.MethodName)) ∈ cd_tbl := tb_4 (List.mem_of_getElem? (i := 163) (by decide +kernel)) (by decide)
theorem kw_4_164 : (Jvm.Cond.selects "CertificateDesk" ({ cls := "CertificateDesk", name := "publish", desc := "(III)Z" } : Jvm.MethodName) ({ cls := "CertificateDesk", name := "publish", desc := "(III)Z" } : Jvm.MethodName)) ∈ cd_tbl := tb_4 (List.mem_of_getElem? (i := 164) (by decide +kernel)) (by decide)
theorem ca_Law_law_40 {X : cd_E} : cd_CV X m_Law_law m_Desk_publish 40 3 0 := ⟨⟨by decide, kw_4_165, kw_1_1, ⟨by decide, by decide, by decide +kernel⟩, by decide, by decide⟩, ⟨_, rfl, rfl⟩, kw_4_163, kw_4_164, (Or.inl kw_4_162)⟩
theorem d_Law_law_255 : decode code 255 = .ok (.aload_n 2, 1) := by decide +kernel
theorem d_Law_law_256 : decode code 256 = .ok (.aload_n 0, 1) := by decide +kernel
theorem d_Law_law_257 : decode code 257 = .ok (.iload_n 3, 1) := by decide +kernel
theorem d_Law_law_258 : decode code 258 = .ok (.iconst 1, 1) := by decide +kernel
theorem d_Law_law_259 : decode code 259 = .ok (.iadd, 1) := by decide +kernel
theorem d_Law_law_260 : decode code 260 = .ok (.iaload, 1) := by decide +kernel
theorem d_Law_law_261 : decode code 261 = .ok (.aload_n 0, 1) := by decide +kernel
theorem d_Law_law_262 : decode code 262 = .ok (.iload_n 3, 1) := by decide +kernel
theorem d_Law_law_263 : decode code 263 = .ok (.iconst 2, 1) := by decide +kernel
theorem d_Law_law_264 : decode code 264 = .ok (.iadd, 1) := by decide +kernel
theorem d_Law_law_265 : decode code 265 = .ok (.iaload, 1) := by decide +kernel
theorem d_Law_law_266 : decode code 266 = .ok (.aload_n 0, 1) := by decide +kernel
theorem d_Law_law_267 : decode code 267 = .ok (.iload_n 3, 1) := by decide +kernel
theorem d_Law_law_268 : decode code 268 = .ok (.iconst 3, 1) := by decide +kernel
theorem d_Law_law_269 : decode code 269 = .ok (.iadd, 1) := by decide +kernel
theorem d_Law_law_270 : decode code 270 = .ok (.iaload, 1) := by decide +kernel
theorem d_Law_law_271 : decode code 271 = .ok (.invokevirtual 44, 3) := by decide +kernel
theorem kw_6_123 : (Jvm.Cond.methodLink "CertificateDeskLaw" (44 : Nat) ({ cls := "CertificateDeskModel", name := "publish", desc := "(III)Z" } : Jvm.MethodName)) ∈ cd_tbl := tb_6 (List.mem_of_getElem? (i := 123) (by decide +kernel)) (by decide)
theorem kw_6_126 : (Jvm.Cond.code ({ cls := "CertificateDeskModel", name := "publish", desc := "(III)Z" } : Jvm.MethodName) prog_14_method_50_code (5 : Nat) (Option.some Jvm.ClassFile.FieldType.boolean)) ∈ cd_tbl := tb_6 (List.mem_of_getElem? (i := 126) (by decide +kernel)) (by decide)
theorem kw_6_124 : (Jvm.Cond.instanceMethod ({ cls := "CertificateDeskModel", name := "publish", desc := "(III)Z" } : Jvm.MethodName)) ∈ cd_tbl := tb_6 (List.mem_of_getElem? (i := 124) (by decide +kernel)) (by decide)
theorem kw_6_125 : (Jvm.Cond.selects "CertificateDeskModel" ({ cls := "CertificateDeskModel", name := "publish", desc := "(III)Z" } : Jvm.MethodName) ({ cls := "CertificateDeskModel", name := "publish", desc := "(III)Z" } : Jvm.MethodName)) ∈ cd_tbl := tb_6 (List.mem_of_getElem? (i := 125) (by decide +kernel)) (by decide)
theorem ca_Law_law_44 {X : cd_E} : cd_CV X m_Law_law m_Mod_publish 44 3 11 := ⟨⟨by decide, kw_6_126, kw_1_10, ⟨by decide, by decide, by decide +kernel⟩, by decide, by decide⟩, ⟨_, rfl, rfl⟩, kw_6_124, kw_6_125, (Or.inl kw_6_123)⟩
theorem d_Law_law_274 : decode code 274 = .ok (.if_icmp .eq 315, 3) := by decide +kernel
theorem d_Law_law_277 : decode code 277 = .ok (.iconst 0, 1) := by decide +kernel
theorem d_Law_law_278 : decode code 278 = .ok (.ireturn, 1) := by decide +kernel
theorem g_Law_law_236 {X : cd_E} {kc ks : Nat} {h : cd_H} {Q : Option Value → cd_H → Prop} {v3 : Int32} (H : (vp_in (v3 + 1) (cd_sL X)) ∧ ((vp_in (v3 + 2) (cd_sL X)) ∧ ((vp_in (v3 + 3) (cd_sL X)) ∧ ((cd_k h 64 = some (.inl 0)) ∧ (cd_W X m_Desk_publish 0 0 0 [some (.ref 64), some (.int (cd_sx X (v3 + 1).toNatClampNeg)), some (.int (cd_sx X (v3 + 2).toNatClampNeg)), some (.int (cd_sx X (v3 + 3).toNatClampNeg)), none, none] [] h (fun r5 h6 => ∃ x7 : Int32, r5 = some (.int x7) ∧ ((cd_k h6 82 = some (.inl 11)) ∧ (cd_W X m_Mod_publish 0 0 0 [some (.ref 82), some (.int (cd_sx X (v3 + 1).toNatClampNeg)), some (.int (cd_sx X (v3 + 2).toNatClampNeg)), some (.int (cd_sx X (v3 + 3).toNatClampNeg)), none] [] h6 (fun r9 h10 => ∃ x11 : Int32, r9 = some (.int x11) ∧ ((((x7 = x11) → (cd_W X m_Law_law kc ks 28 [some (.ref 35), some (.ref 64), some (.ref 82), some (.int (v3 + 5))] [] h10 Q)) ∧ ((¬ x7 = x11) → (Q (some (.int 0)) h10))))))))))))) : cd_W X m_Law_law kc ks 236 [some (.ref 35), some (.ref 64), some (.ref 82), some (.int v3)] [] h Q := by
  refine cd_aload_n (i := 1) (v := .ref 64) d_Law_law_236 rfl rfl (cd_isr_ref _) ?_
  show cd_W X m_Law_law kc ks 237 [some (.ref 35), some (.ref 64), some (.ref 82), some (.int v3)] [.ref 64] h Q
  refine cd_aload_n (i := 0) (v := .ref 35) d_Law_law_237 rfl rfl (cd_isr_ref _) ?_
  refine cd_iload_n (i := 3) d_Law_law_238 rfl rfl ?_
  refine cd_iconst (v := 1) d_Law_law_239 (by decide) ?_
  refine cd_iadd d_Law_law_240 ?_
  obtain ⟨c1, H⟩ := H
  refine cd_sld (j := (v3 + 1)) d_Law_law_241 c1 ?_
  refine cd_aload_n (i := 0) (v := .ref 35) d_Law_law_242 rfl rfl (cd_isr_ref _) ?_
  refine cd_iload_n (i := 3) d_Law_law_243 rfl rfl ?_
  refine cd_iconst (v := 2) d_Law_law_244 (by decide) ?_
  show cd_W X m_Law_law kc ks 245 [some (.ref 35), some (.ref 64), some (.ref 82), some (.int v3)] [.int 2, .int v3, .ref 35, .int (cd_sx X (v3 + 1).toNatClampNeg), .ref 64] h Q
  refine cd_iadd d_Law_law_245 ?_
  obtain ⟨c2, H⟩ := H
  refine cd_sld (j := (v3 + 2)) d_Law_law_246 c2 ?_
  refine cd_aload_n (i := 0) (v := .ref 35) d_Law_law_247 rfl rfl (cd_isr_ref _) ?_
  refine cd_iload_n (i := 3) d_Law_law_248 rfl rfl ?_
  refine cd_iconst (v := 3) d_Law_law_249 (by decide) ?_
  refine cd_iadd d_Law_law_250 ?_
  obtain ⟨c3, H⟩ := H
  refine cd_sld (j := (v3 + 3)) d_Law_law_251 c3 ?_
  obtain ⟨c4, H⟩ := H
  refine cd_callV (kc := kc) (ks := ks) (kc' := 0) (ks' := 0) (As := [.int (cd_sx X (v3 + 1).toNatClampNeg), .int (cd_sx X (v3 + 2).toNatClampNeg), .int (cd_sx X (v3 + 3).toNatClampNeg)]) (S := []) d_Law_law_252 ca_Law_law_40 c4 rfl (Nat.le_of_ble_eq_true rfl) (Nat.le_of_ble_eq_true rfl) ?_
  refine cd_W.mono (fun r5 h6 H => ?_) H
  obtain ⟨x7, rfl, H⟩ := H
  show cd_W X m_Law_law kc ks 255 [some (.ref 35), some (.ref 64), some (.ref 82), some (.int v3)] [.int x7] h6 Q
  refine cd_aload_n (i := 2) (v := .ref 82) d_Law_law_255 rfl rfl (cd_isr_ref _) ?_
  show cd_W X m_Law_law kc ks 256 [some (.ref 35), some (.ref 64), some (.ref 82), some (.int v3)] [.ref 82, .int x7] h6 Q
  refine cd_aload_n (i := 0) (v := .ref 35) d_Law_law_256 rfl rfl (cd_isr_ref _) ?_
  refine cd_iload_n (i := 3) d_Law_law_257 rfl rfl ?_
  refine cd_iconst (v := 1) d_Law_law_258 (by decide) ?_
  refine cd_iadd d_Law_law_259 ?_
  refine cd_sld (j := (v3 + 1)) d_Law_law_260 c1 ?_
  refine cd_aload_n (i := 0) (v := .ref 35) d_Law_law_261 rfl rfl (cd_isr_ref _) ?_
  refine cd_iload_n (i := 3) d_Law_law_262 rfl rfl ?_
  refine cd_iconst (v := 2) d_Law_law_263 (by decide) ?_
  show cd_W X m_Law_law kc ks 264 [some (.ref 35), some (.ref 64), some (.ref 82), some (.int v3)] [.int 2, .int v3, .ref 35, .int (cd_sx X (v3 + 1).toNatClampNeg), .ref 82, .int x7] h6 Q
  refine cd_iadd d_Law_law_264 ?_
  refine cd_sld (j := (v3 + 2)) d_Law_law_265 c2 ?_
  refine cd_aload_n (i := 0) (v := .ref 35) d_Law_law_266 rfl rfl (cd_isr_ref _) ?_
  refine cd_iload_n (i := 3) d_Law_law_267 rfl rfl ?_
  refine cd_iconst (v := 3) d_Law_law_268 (by decide) ?_
  refine cd_iadd d_Law_law_269 ?_
  refine cd_sld (j := (v3 + 3)) d_Law_law_270 c3 ?_
  obtain ⟨c8, H⟩ := H
  refine cd_callV (kc := kc) (ks := ks) (kc' := 0) (ks' := 0) (As := [.int (cd_sx X (v3 + 1).toNatClampNeg), .int (cd_sx X (v3 + 2).toNatClampNeg), .int (cd_sx X (v3 + 3).toNatClampNeg)]) (S := [.int x7]) d_Law_law_271 ca_Law_law_44 c8 rfl (Nat.le_of_ble_eq_true rfl) (Nat.le_of_ble_eq_true rfl) ?_
  refine cd_W.mono (fun r9 h10 H => ?_) H
  obtain ⟨x11, rfl, H⟩ := H
  show cd_W X m_Law_law kc ks 274 [some (.ref 35), some (.ref 64), some (.ref 82), some (.int v3)] [.int x11, .int x7] h10 Q
  refine cd_icmp_eq (tgt := 589) d_Law_law_274 (by decide) (fun t12 => ?_) (fun t12 => ?_)
  · replace H := H.1 t12
    refine cd_iinc (i := 3) (v := (v3 + 5)) d_Law_law_589 rfl (cd_inc5 _) (by decide) ?_
    show cd_W X m_Law_law kc ks 592 [some (.ref 35), some (.ref 64), some (.ref 82), some (.int (v3 + 5))] [] h10 Q
    refine cd_goto (tgt := 28) d_Law_law_592 (by decide) ?_
    exact H
  · replace H := H.2 t12
    refine cd_iconst (v := 0) d_Law_law_277 (by decide) ?_
    show cd_W X m_Law_law kc ks 278 [some (.ref 35), some (.ref 64), some (.ref 82), some (.int v3)] [.int 0] h10 Q
    exact cd_iret d_Law_law_278 rfl rfl H

theorem d_Law_law_279 : decode code 279 = .ok (.aload_n 1, 1) := by decide +kernel
theorem d_Law_law_280 : decode code 280 = .ok (.aload_n 0, 1) := by decide +kernel
theorem d_Law_law_281 : decode code 281 = .ok (.iload_n 3, 1) := by decide +kernel
theorem d_Law_law_282 : decode code 282 = .ok (.iconst 1, 1) := by decide +kernel
theorem d_Law_law_283 : decode code 283 = .ok (.iadd, 1) := by decide +kernel
theorem d_Law_law_284 : decode code 284 = .ok (.iaload, 1) := by decide +kernel
theorem d_Law_law_285 : decode code 285 = .ok (.aload_n 0, 1) := by decide +kernel
theorem d_Law_law_286 : decode code 286 = .ok (.iload_n 3, 1) := by decide +kernel
theorem d_Law_law_287 : decode code 287 = .ok (.iconst 2, 1) := by decide +kernel
theorem d_Law_law_288 : decode code 288 = .ok (.iadd, 1) := by decide +kernel
theorem d_Law_law_289 : decode code 289 = .ok (.iaload, 1) := by decide +kernel
theorem d_Law_law_290 : decode code 290 = .ok (.invokevirtual 45, 3) := by decide +kernel
theorem kw_4_190 : (Jvm.Cond.methodLink "CertificateDeskLaw" (45 : Nat) ({ cls := "CertificateDesk", name := "withdraw", desc := "(II)Z" } : Jvm.MethodName)) ∈ cd_tbl := tb_4 (List.mem_of_getElem? (i := 190) (by decide +kernel)) (by decide)
theorem kw_4_193 : (Jvm.Cond.code ({ cls := "CertificateDesk", name := "withdraw", desc := "(II)Z" } : Jvm.MethodName) prog_1_method_7_code (4 : Nat) (Option.some Jvm.ClassFile.FieldType.boolean)) ∈ cd_tbl := tb_4 (List.mem_of_getElem? (i := 193) (by decide +kernel)) (by decide)
theorem kw_4_191 : (Jvm.Cond.instanceMethod ({ cls := "CertificateDesk", name := "withdraw", desc := "(II)Z" } : Jvm.MethodName)) ∈ cd_tbl := tb_4 (List.mem_of_getElem? (i := 191) (by decide +kernel)) (by decide)
theorem kw_4_192 : (Jvm.Cond.selects "CertificateDesk" ({ cls := "CertificateDesk", name := "withdraw", desc := "(II)Z" } : Jvm.MethodName) ({ cls := "CertificateDesk", name := "withdraw", desc := "(II)Z" } : Jvm.MethodName)) ∈ cd_tbl := tb_4 (List.mem_of_getElem? (i := 192) (by decide +kernel)) (by decide)
theorem ca_Law_law_45 {X : cd_E} : cd_CV X m_Law_law m_Desk_withdraw 45 2 0 := ⟨⟨by decide, kw_4_193, kw_1_1, ⟨by decide, by decide, by decide +kernel⟩, by decide, by decide⟩, ⟨_, rfl, rfl⟩, kw_4_191, kw_4_192, (Or.inl kw_4_190)⟩
theorem d_Law_law_293 : decode code 293 = .ok (.aload_n 2, 1) := by decide +kernel
theorem d_Law_law_294 : decode code 294 = .ok (.aload_n 0, 1) := by decide +kernel
theorem d_Law_law_295 : decode code 295 = .ok (.iload_n 3, 1) := by decide +kernel
theorem d_Law_law_296 : decode code 296 = .ok (.iconst 1, 1) := by decide +kernel
theorem d_Law_law_297 : decode code 297 = .ok (.iadd, 1) := by decide +kernel
theorem d_Law_law_298 : decode code 298 = .ok (.iaload, 1) := by decide +kernel
theorem d_Law_law_299 : decode code 299 = .ok (.aload_n 0, 1) := by decide +kernel
theorem d_Law_law_300 : decode code 300 = .ok (.iload_n 3, 1) := by decide +kernel
theorem d_Law_law_301 : decode code 301 = .ok (.iconst 2, 1) := by decide +kernel
theorem d_Law_law_302 : decode code 302 = .ok (.iadd, 1) := by decide +kernel
theorem d_Law_law_303 : decode code 303 = .ok (.iaload, 1) := by decide +kernel
theorem d_Law_law_304 : decode code 304 = .ok (.invokevirtual 49, 3) := by decide +kernel
theorem kw_6_147 : (Jvm.Cond.methodLink "CertificateDeskLaw" (49 : Nat) ({ cls := "CertificateDeskModel", name := "withdraw", desc := "(II)Z" } : Jvm.MethodName)) ∈ cd_tbl := tb_6 (List.mem_of_getElem? (i := 147) (by decide +kernel)) (by decide)
theorem kw_6_150 : (Jvm.Cond.code ({ cls := "CertificateDeskModel", name := "withdraw", desc := "(II)Z" } : Jvm.MethodName) prog_14_method_51_code (5 : Nat) (Option.some Jvm.ClassFile.FieldType.boolean)) ∈ cd_tbl := tb_6 (List.mem_of_getElem? (i := 150) (by decide +kernel)) (by decide)
theorem kw_6_148 : (Jvm.Cond.instanceMethod ({ cls := "CertificateDeskModel", name := "withdraw", desc := "(II)Z" } : Jvm.MethodName)) ∈ cd_tbl := tb_6 (List.mem_of_getElem? (i := 148) (by decide +kernel)) (by decide)
theorem kw_6_149 : (Jvm.Cond.selects "CertificateDeskModel" ({ cls := "CertificateDeskModel", name := "withdraw", desc := "(II)Z" } : Jvm.MethodName) ({ cls := "CertificateDeskModel", name := "withdraw", desc := "(II)Z" } : Jvm.MethodName)) ∈ cd_tbl := tb_6 (List.mem_of_getElem? (i := 149) (by decide +kernel)) (by decide)
theorem ca_Law_law_49 {X : cd_E} : cd_CV X m_Law_law m_Mod_withdraw 49 2 11 := ⟨⟨by decide, kw_6_150, kw_1_10, ⟨by decide, by decide, by decide +kernel⟩, by decide, by decide⟩, ⟨_, rfl, rfl⟩, kw_6_148, kw_6_149, (Or.inl kw_6_147)⟩
theorem d_Law_law_307 : decode code 307 = .ok (.if_icmp .eq 282, 3) := by decide +kernel
theorem d_Law_law_310 : decode code 310 = .ok (.iconst 0, 1) := by decide +kernel
theorem d_Law_law_311 : decode code 311 = .ok (.ireturn, 1) := by decide +kernel
theorem g_Law_law_279 {X : cd_E} {kc ks : Nat} {h : cd_H} {Q : Option Value → cd_H → Prop} {v3 : Int32} (H : (vp_in (v3 + 1) (cd_sL X)) ∧ ((vp_in (v3 + 2) (cd_sL X)) ∧ ((cd_k h 64 = some (.inl 0)) ∧ (cd_W X m_Desk_withdraw 0 0 0 [some (.ref 64), some (.int (cd_sx X (v3 + 1).toNatClampNeg)), some (.int (cd_sx X (v3 + 2).toNatClampNeg)), none] [] h (fun r4 h5 => ∃ x6 : Int32, r4 = some (.int x6) ∧ ((cd_k h5 82 = some (.inl 11)) ∧ (cd_W X m_Mod_withdraw 0 0 0 [some (.ref 82), some (.int (cd_sx X (v3 + 1).toNatClampNeg)), some (.int (cd_sx X (v3 + 2).toNatClampNeg)), none, none] [] h5 (fun r8 h9 => ∃ x10 : Int32, r8 = some (.int x10) ∧ ((((x6 = x10) → (cd_W X m_Law_law kc ks 28 [some (.ref 35), some (.ref 64), some (.ref 82), some (.int (v3 + 5))] [] h9 Q)) ∧ ((¬ x6 = x10) → (Q (some (.int 0)) h9)))))))))))) : cd_W X m_Law_law kc ks 279 [some (.ref 35), some (.ref 64), some (.ref 82), some (.int v3)] [] h Q := by
  refine cd_aload_n (i := 1) (v := .ref 64) d_Law_law_279 rfl rfl (cd_isr_ref _) ?_
  refine cd_aload_n (i := 0) (v := .ref 35) d_Law_law_280 rfl rfl (cd_isr_ref _) ?_
  show cd_W X m_Law_law kc ks 281 [some (.ref 35), some (.ref 64), some (.ref 82), some (.int v3)] [.ref 35, .ref 64] h Q
  refine cd_iload_n (i := 3) d_Law_law_281 rfl rfl ?_
  refine cd_iconst (v := 1) d_Law_law_282 (by decide) ?_
  refine cd_iadd d_Law_law_283 ?_
  obtain ⟨c1, H⟩ := H
  refine cd_sld (j := (v3 + 1)) d_Law_law_284 c1 ?_
  refine cd_aload_n (i := 0) (v := .ref 35) d_Law_law_285 rfl rfl (cd_isr_ref _) ?_
  refine cd_iload_n (i := 3) d_Law_law_286 rfl rfl ?_
  refine cd_iconst (v := 2) d_Law_law_287 (by decide) ?_
  refine cd_iadd d_Law_law_288 ?_
  show cd_W X m_Law_law kc ks 289 [some (.ref 35), some (.ref 64), some (.ref 82), some (.int v3)] [.int (v3 + 2), .ref 35, .int (cd_sx X (v3 + 1).toNatClampNeg), .ref 64] h Q
  obtain ⟨c2, H⟩ := H
  refine cd_sld (j := (v3 + 2)) d_Law_law_289 c2 ?_
  obtain ⟨c3, H⟩ := H
  refine cd_callV (kc := kc) (ks := ks) (kc' := 0) (ks' := 0) (As := [.int (cd_sx X (v3 + 1).toNatClampNeg), .int (cd_sx X (v3 + 2).toNatClampNeg)]) (S := []) d_Law_law_290 ca_Law_law_45 c3 rfl (Nat.le_of_ble_eq_true rfl) (Nat.le_of_ble_eq_true rfl) ?_
  refine cd_W.mono (fun r4 h5 H => ?_) H
  obtain ⟨x6, rfl, H⟩ := H
  show cd_W X m_Law_law kc ks 293 [some (.ref 35), some (.ref 64), some (.ref 82), some (.int v3)] [.int x6] h5 Q
  refine cd_aload_n (i := 2) (v := .ref 82) d_Law_law_293 rfl rfl (cd_isr_ref _) ?_
  refine cd_aload_n (i := 0) (v := .ref 35) d_Law_law_294 rfl rfl (cd_isr_ref _) ?_
  refine cd_iload_n (i := 3) d_Law_law_295 rfl rfl ?_
  refine cd_iconst (v := 1) d_Law_law_296 (by decide) ?_
  refine cd_iadd d_Law_law_297 ?_
  refine cd_sld (j := (v3 + 1)) d_Law_law_298 c1 ?_
  show cd_W X m_Law_law kc ks 299 [some (.ref 35), some (.ref 64), some (.ref 82), some (.int v3)] [.int (cd_sx X (v3 + 1).toNatClampNeg), .ref 82, .int x6] h5 Q
  refine cd_aload_n (i := 0) (v := .ref 35) d_Law_law_299 rfl rfl (cd_isr_ref _) ?_
  refine cd_iload_n (i := 3) d_Law_law_300 rfl rfl ?_
  refine cd_iconst (v := 2) d_Law_law_301 (by decide) ?_
  refine cd_iadd d_Law_law_302 ?_
  refine cd_sld (j := (v3 + 2)) d_Law_law_303 c2 ?_
  obtain ⟨c7, H⟩ := H
  refine cd_callV (kc := kc) (ks := ks) (kc' := 0) (ks' := 0) (As := [.int (cd_sx X (v3 + 1).toNatClampNeg), .int (cd_sx X (v3 + 2).toNatClampNeg)]) (S := [.int x6]) d_Law_law_304 ca_Law_law_49 c7 rfl (Nat.le_of_ble_eq_true rfl) (Nat.le_of_ble_eq_true rfl) ?_
  refine cd_W.mono (fun r8 h9 H => ?_) H
  obtain ⟨x10, rfl, H⟩ := H
  show cd_W X m_Law_law kc ks 307 [some (.ref 35), some (.ref 64), some (.ref 82), some (.int v3)] [.int x10, .int x6] h9 Q
  refine cd_icmp_eq (tgt := 589) d_Law_law_307 (by decide) (fun t11 => ?_) (fun t11 => ?_)
  · replace H := H.1 t11
    refine cd_iinc (i := 3) (v := (v3 + 5)) d_Law_law_589 rfl (cd_inc5 _) (by decide) ?_
    show cd_W X m_Law_law kc ks 592 [some (.ref 35), some (.ref 64), some (.ref 82), some (.int (v3 + 5))] [] h9 Q
    refine cd_goto (tgt := 28) d_Law_law_592 (by decide) ?_
    exact H
  · replace H := H.2 t11
    refine cd_iconst (v := 0) d_Law_law_310 (by decide) ?_
    show cd_W X m_Law_law kc ks 311 [some (.ref 35), some (.ref 64), some (.ref 82), some (.int v3)] [.int 0] h9 Q
    exact cd_iret d_Law_law_311 rfl rfl H

theorem d_Law_law_312 : decode code 312 = .ok (.aload_n 1, 1) := by decide +kernel
theorem d_Law_law_313 : decode code 313 = .ok (.invokevirtual 50, 3) := by decide +kernel
theorem kw_4_194 : (Jvm.Cond.methodLink "CertificateDeskLaw" (50 : Nat) ({ cls := "CertificateDesk", name := "tick", desc := "()I" } : Jvm.MethodName)) ∈ cd_tbl := tb_4 (List.mem_of_getElem? (i := 194) (by decide +kernel)) (by decide)
theorem kw_4_197 : (Jvm.Cond.code ({ cls := "CertificateDesk", name := "tick", desc := "()I" } : Jvm.MethodName) prog_1_method_8_code (6 : Nat) (Option.some Jvm.ClassFile.FieldType.int)) ∈ cd_tbl := tb_4 (List.mem_of_getElem? (i := 197) (by decide +kernel)) (by decide)
theorem kw_4_195 : (Jvm.Cond.instanceMethod ({ cls := "CertificateDesk", name := "tick", desc := "()I" } : Jvm.MethodName)) ∈ cd_tbl := tb_4 (List.mem_of_getElem? (i := 195) (by decide +kernel)) (by decide)
theorem kw_4_196 : (Jvm.Cond.selects "CertificateDesk" ({ cls := "CertificateDesk", name := "tick", desc := "()I" } : Jvm.MethodName) ({ cls := "CertificateDesk", name := "tick", desc := "()I" } : Jvm.MethodName)) ∈ cd_tbl := tb_4 (List.mem_of_getElem? (i := 196) (by decide +kernel)) (by decide)
theorem ca_Law_law_50 {X : cd_E} : cd_CV X m_Law_law m_Desk_tick 50 0 0 := ⟨⟨by decide, kw_4_197, kw_1_1, ⟨by decide, by decide, by decide +kernel⟩, by decide, by decide⟩, ⟨_, rfl, rfl⟩, kw_4_195, kw_4_196, (Or.inl kw_4_194)⟩
theorem d_Law_law_316 : decode code 316 = .ok (.aload_n 2, 1) := by decide +kernel
theorem d_Law_law_317 : decode code 317 = .ok (.invokevirtual 53, 3) := by decide +kernel
theorem kw_6_151 : (Jvm.Cond.methodLink "CertificateDeskLaw" (53 : Nat) ({ cls := "CertificateDeskModel", name := "tick", desc := "()I" } : Jvm.MethodName)) ∈ cd_tbl := tb_6 (List.mem_of_getElem? (i := 151) (by decide +kernel)) (by decide)
theorem kw_6_154 : (Jvm.Cond.code ({ cls := "CertificateDeskModel", name := "tick", desc := "()I" } : Jvm.MethodName) prog_14_method_52_code (6 : Nat) (Option.some Jvm.ClassFile.FieldType.int)) ∈ cd_tbl := tb_6 (List.mem_of_getElem? (i := 154) (by decide +kernel)) (by decide)
theorem kw_6_152 : (Jvm.Cond.instanceMethod ({ cls := "CertificateDeskModel", name := "tick", desc := "()I" } : Jvm.MethodName)) ∈ cd_tbl := tb_6 (List.mem_of_getElem? (i := 152) (by decide +kernel)) (by decide)
theorem kw_6_153 : (Jvm.Cond.selects "CertificateDeskModel" ({ cls := "CertificateDeskModel", name := "tick", desc := "()I" } : Jvm.MethodName) ({ cls := "CertificateDeskModel", name := "tick", desc := "()I" } : Jvm.MethodName)) ∈ cd_tbl := tb_6 (List.mem_of_getElem? (i := 153) (by decide +kernel)) (by decide)
theorem ca_Law_law_53 {X : cd_E} : cd_CV X m_Law_law m_Mod_tick 53 0 11 := ⟨⟨by decide, kw_6_154, kw_1_10, ⟨by decide, by decide, by decide +kernel⟩, by decide, by decide⟩, ⟨_, rfl, rfl⟩, kw_6_152, kw_6_153, (Or.inl kw_6_151)⟩
theorem d_Law_law_320 : decode code 320 = .ok (.if_icmp .eq 269, 3) := by decide +kernel
theorem d_Law_law_323 : decode code 323 = .ok (.iconst 0, 1) := by decide +kernel
theorem d_Law_law_324 : decode code 324 = .ok (.ireturn, 1) := by decide +kernel
theorem g_Law_law_312 {X : cd_E} {kc ks : Nat} {h : cd_H} {Q : Option Value → cd_H → Prop} {v3 : Int32} (H : (cd_k h 64 = some (.inl 0)) ∧ (cd_W X m_Desk_tick 0 0 0 [some (.ref 64), none, none, none, none, none] [] h (fun r2 h3 => ∃ x4 : Int32, r2 = some (.int x4) ∧ ((cd_k h3 82 = some (.inl 11)) ∧ (cd_W X m_Mod_tick 0 0 0 [some (.ref 82), none, none, none, none, none] [] h3 (fun r6 h7 => ∃ x8 : Int32, r6 = some (.int x8) ∧ ((((x4 = x8) → (cd_W X m_Law_law kc ks 28 [some (.ref 35), some (.ref 64), some (.ref 82), some (.int (v3 + 5))] [] h7 Q)) ∧ ((¬ x4 = x8) → (Q (some (.int 0)) h7)))))))))) : cd_W X m_Law_law kc ks 312 [some (.ref 35), some (.ref 64), some (.ref 82), some (.int v3)] [] h Q := by
  refine cd_aload_n (i := 1) (v := .ref 64) d_Law_law_312 rfl rfl (cd_isr_ref _) ?_
  obtain ⟨c1, H⟩ := H
  refine cd_callV (kc := kc) (ks := ks) (kc' := 0) (ks' := 0) (As := []) (S := []) d_Law_law_313 ca_Law_law_50 c1 rfl (Nat.le_of_ble_eq_true rfl) (Nat.le_of_ble_eq_true rfl) ?_
  refine cd_W.mono (fun r2 h3 H => ?_) H
  obtain ⟨x4, rfl, H⟩ := H
  show cd_W X m_Law_law kc ks 316 [some (.ref 35), some (.ref 64), some (.ref 82), some (.int v3)] [.int x4] h3 Q
  refine cd_aload_n (i := 2) (v := .ref 82) d_Law_law_316 rfl rfl (cd_isr_ref _) ?_
  obtain ⟨c5, H⟩ := H
  refine cd_callV (kc := kc) (ks := ks) (kc' := 0) (ks' := 0) (As := []) (S := [.int x4]) d_Law_law_317 ca_Law_law_53 c5 rfl (Nat.le_of_ble_eq_true rfl) (Nat.le_of_ble_eq_true rfl) ?_
  refine cd_W.mono (fun r6 h7 H => ?_) H
  obtain ⟨x8, rfl, H⟩ := H
  show cd_W X m_Law_law kc ks 320 [some (.ref 35), some (.ref 64), some (.ref 82), some (.int v3)] [.int x8, .int x4] h7 Q
  refine cd_icmp_eq (tgt := 589) d_Law_law_320 (by decide) (fun t9 => ?_) (fun t9 => ?_)
  · replace H := H.1 t9
    refine cd_iinc (i := 3) (v := (v3 + 5)) d_Law_law_589 rfl (cd_inc5 _) (by decide) ?_
    show cd_W X m_Law_law kc ks 592 [some (.ref 35), some (.ref 64), some (.ref 82), some (.int (v3 + 5))] [] h7 Q
    refine cd_goto (tgt := 28) d_Law_law_592 (by decide) ?_
    exact H
  · replace H := H.2 t9
    refine cd_iconst (v := 0) d_Law_law_323 (by decide) ?_
    show cd_W X m_Law_law kc ks 324 [some (.ref 35), some (.ref 64), some (.ref 82), some (.int v3)] [.int 0] h7 Q
    exact cd_iret d_Law_law_324 rfl rfl H

theorem d_Law_law_325 : decode code 325 = .ok (.aload_n 1, 1) := by decide +kernel
theorem d_Law_law_326 : decode code 326 = .ok (.aload_n 0, 1) := by decide +kernel
theorem d_Law_law_327 : decode code 327 = .ok (.iload_n 3, 1) := by decide +kernel
theorem d_Law_law_328 : decode code 328 = .ok (.iconst 1, 1) := by decide +kernel
theorem d_Law_law_329 : decode code 329 = .ok (.iadd, 1) := by decide +kernel
theorem d_Law_law_330 : decode code 330 = .ok (.iaload, 1) := by decide +kernel
theorem d_Law_law_331 : decode code 331 = .ok (.invokevirtual 54, 3) := by decide +kernel
theorem kw_4_206 : (Jvm.Cond.methodLink "CertificateDeskLaw" (54 : Nat) ({ cls := "CertificateDesk", name := "cut", desc := "(I)Z" } : Jvm.MethodName)) ∈ cd_tbl := tb_4 (List.mem_of_getElem? (i := 206) (by decide +kernel)) (by decide)
theorem kw_4_209 : (Jvm.Cond.code ({ cls := "CertificateDesk", name := "cut", desc := "(I)Z" } : Jvm.MethodName) prog_1_method_9_code (2 : Nat) (Option.some Jvm.ClassFile.FieldType.boolean)) ∈ cd_tbl := tb_4 (List.mem_of_getElem? (i := 209) (by decide +kernel)) (by decide)
theorem kw_4_207 : (Jvm.Cond.instanceMethod ({ cls := "CertificateDesk", name := "cut", desc := "(I)Z" } : Jvm.MethodName)) ∈ cd_tbl := tb_4 (List.mem_of_getElem? (i := 207) (by decide +kernel)) (by decide)
theorem kw_4_208 : (Jvm.Cond.selects "CertificateDesk" ({ cls := "CertificateDesk", name := "cut", desc := "(I)Z" } : Jvm.MethodName) ({ cls := "CertificateDesk", name := "cut", desc := "(I)Z" } : Jvm.MethodName)) ∈ cd_tbl := tb_4 (List.mem_of_getElem? (i := 208) (by decide +kernel)) (by decide)
theorem ca_Law_law_54 {X : cd_E} : cd_CV X m_Law_law m_Desk_cut 54 1 0 := ⟨⟨by decide, kw_4_209, kw_1_1, ⟨by decide, by decide, by decide +kernel⟩, by decide, by decide⟩, ⟨_, rfl, rfl⟩, kw_4_207, kw_4_208, (Or.inl kw_4_206)⟩
theorem d_Law_law_334 : decode code 334 = .ok (.aload_n 2, 1) := by decide +kernel
theorem d_Law_law_335 : decode code 335 = .ok (.aload_n 0, 1) := by decide +kernel
theorem d_Law_law_336 : decode code 336 = .ok (.iload_n 3, 1) := by decide +kernel
theorem d_Law_law_337 : decode code 337 = .ok (.iconst 1, 1) := by decide +kernel
theorem d_Law_law_338 : decode code 338 = .ok (.iadd, 1) := by decide +kernel
theorem d_Law_law_339 : decode code 339 = .ok (.iaload, 1) := by decide +kernel
theorem d_Law_law_340 : decode code 340 = .ok (.invokevirtual 58, 3) := by decide +kernel
theorem kw_5_176 : (Jvm.Cond.methodLink "CertificateDeskLaw" (58 : Nat) ({ cls := "CertificateDeskModel", name := "cut", desc := "(I)Z" } : Jvm.MethodName)) ∈ cd_tbl := tb_5 (List.mem_of_getElem? (i := 176) (by decide +kernel)) (by decide)
theorem kw_5_179 : (Jvm.Cond.code ({ cls := "CertificateDeskModel", name := "cut", desc := "(I)Z" } : Jvm.MethodName) prog_14_method_31_code (2 : Nat) (Option.some Jvm.ClassFile.FieldType.boolean)) ∈ cd_tbl := tb_5 (List.mem_of_getElem? (i := 179) (by decide +kernel)) (by decide)
theorem kw_5_177 : (Jvm.Cond.instanceMethod ({ cls := "CertificateDeskModel", name := "cut", desc := "(I)Z" } : Jvm.MethodName)) ∈ cd_tbl := tb_5 (List.mem_of_getElem? (i := 177) (by decide +kernel)) (by decide)
theorem kw_5_178 : (Jvm.Cond.selects "CertificateDeskModel" ({ cls := "CertificateDeskModel", name := "cut", desc := "(I)Z" } : Jvm.MethodName) ({ cls := "CertificateDeskModel", name := "cut", desc := "(I)Z" } : Jvm.MethodName)) ∈ cd_tbl := tb_5 (List.mem_of_getElem? (i := 178) (by decide +kernel)) (by decide)
theorem ca_Law_law_58 {X : cd_E} : cd_CV X m_Law_law m_Mod_cut 58 1 11 := ⟨⟨by decide, kw_5_179, kw_1_10, ⟨by decide, by decide, by decide +kernel⟩, by decide, by decide⟩, ⟨_, rfl, rfl⟩, kw_5_177, kw_5_178, (Or.inl kw_5_176)⟩
theorem d_Law_law_343 : decode code 343 = .ok (.if_icmp .eq 246, 3) := by decide +kernel
theorem d_Law_law_346 : decode code 346 = .ok (.iconst 0, 1) := by decide +kernel
theorem d_Law_law_347 : decode code 347 = .ok (.ireturn, 1) := by decide +kernel
theorem g_Law_law_325 {X : cd_E} {kc ks : Nat} {h : cd_H} {Q : Option Value → cd_H → Prop} {v3 : Int32} (H : (vp_in (v3 + 1) (cd_sL X)) ∧ ((cd_k h 64 = some (.inl 0)) ∧ (cd_W X m_Desk_cut 0 0 0 [some (.ref 64), some (.int (cd_sx X (v3 + 1).toNatClampNeg))] [] h (fun r3 h4 => ∃ x5 : Int32, r3 = some (.int x5) ∧ ((cd_k h4 82 = some (.inl 11)) ∧ (cd_W X m_Mod_cut 0 0 0 [some (.ref 82), some (.int (cd_sx X (v3 + 1).toNatClampNeg))] [] h4 (fun r7 h8 => ∃ x9 : Int32, r7 = some (.int x9) ∧ ((((x5 = x9) → (cd_W X m_Law_law kc ks 28 [some (.ref 35), some (.ref 64), some (.ref 82), some (.int (v3 + 5))] [] h8 Q)) ∧ ((¬ x5 = x9) → (Q (some (.int 0)) h8))))))))))) : cd_W X m_Law_law kc ks 325 [some (.ref 35), some (.ref 64), some (.ref 82), some (.int v3)] [] h Q := by
  refine cd_aload_n (i := 1) (v := .ref 64) d_Law_law_325 rfl rfl (cd_isr_ref _) ?_
  refine cd_aload_n (i := 0) (v := .ref 35) d_Law_law_326 rfl rfl (cd_isr_ref _) ?_
  refine cd_iload_n (i := 3) d_Law_law_327 rfl rfl ?_
  refine cd_iconst (v := 1) d_Law_law_328 (by decide) ?_
  refine cd_iadd d_Law_law_329 ?_
  obtain ⟨c1, H⟩ := H
  refine cd_sld (j := (v3 + 1)) d_Law_law_330 c1 ?_
  obtain ⟨c2, H⟩ := H
  refine cd_callV (kc := kc) (ks := ks) (kc' := 0) (ks' := 0) (As := [.int (cd_sx X (v3 + 1).toNatClampNeg)]) (S := []) d_Law_law_331 ca_Law_law_54 c2 rfl (Nat.le_of_ble_eq_true rfl) (Nat.le_of_ble_eq_true rfl) ?_
  refine cd_W.mono (fun r3 h4 H => ?_) H
  obtain ⟨x5, rfl, H⟩ := H
  show cd_W X m_Law_law kc ks 334 [some (.ref 35), some (.ref 64), some (.ref 82), some (.int v3)] [.int x5] h4 Q
  refine cd_aload_n (i := 2) (v := .ref 82) d_Law_law_334 rfl rfl (cd_isr_ref _) ?_
  show cd_W X m_Law_law kc ks 335 [some (.ref 35), some (.ref 64), some (.ref 82), some (.int v3)] [.ref 82, .int x5] h4 Q
  refine cd_aload_n (i := 0) (v := .ref 35) d_Law_law_335 rfl rfl (cd_isr_ref _) ?_
  refine cd_iload_n (i := 3) d_Law_law_336 rfl rfl ?_
  refine cd_iconst (v := 1) d_Law_law_337 (by decide) ?_
  refine cd_iadd d_Law_law_338 ?_
  refine cd_sld (j := (v3 + 1)) d_Law_law_339 c1 ?_
  obtain ⟨c6, H⟩ := H
  refine cd_callV (kc := kc) (ks := ks) (kc' := 0) (ks' := 0) (As := [.int (cd_sx X (v3 + 1).toNatClampNeg)]) (S := [.int x5]) d_Law_law_340 ca_Law_law_58 c6 rfl (Nat.le_of_ble_eq_true rfl) (Nat.le_of_ble_eq_true rfl) ?_
  refine cd_W.mono (fun r7 h8 H => ?_) H
  obtain ⟨x9, rfl, H⟩ := H
  show cd_W X m_Law_law kc ks 343 [some (.ref 35), some (.ref 64), some (.ref 82), some (.int v3)] [.int x9, .int x5] h8 Q
  refine cd_icmp_eq (tgt := 589) d_Law_law_343 (by decide) (fun t10 => ?_) (fun t10 => ?_)
  · replace H := H.1 t10
    refine cd_iinc (i := 3) (v := (v3 + 5)) d_Law_law_589 rfl (cd_inc5 _) (by decide) ?_
    show cd_W X m_Law_law kc ks 592 [some (.ref 35), some (.ref 64), some (.ref 82), some (.int (v3 + 5))] [] h8 Q
    refine cd_goto (tgt := 28) d_Law_law_592 (by decide) ?_
    exact H
  · replace H := H.2 t10
    refine cd_iconst (v := 0) d_Law_law_346 (by decide) ?_
    show cd_W X m_Law_law kc ks 347 [some (.ref 35), some (.ref 64), some (.ref 82), some (.int v3)] [.int 0] h8 Q
    exact cd_iret d_Law_law_347 rfl rfl H

theorem d_Law_law_348 : decode code 348 = .ok (.aload_n 1, 1) := by decide +kernel
theorem d_Law_law_349 : decode code 349 = .ok (.invokevirtual 59, 3) := by decide +kernel
theorem kw_4_210 : (Jvm.Cond.methodLink "CertificateDeskLaw" (59 : Nat) ({ cls := "CertificateDesk", name := "crash", desc := "()V" } : Jvm.MethodName)) ∈ cd_tbl := tb_4 (List.mem_of_getElem? (i := 210) (by decide +kernel)) (by decide)
theorem ca_Law_law_59 {X : cd_E} : cd_CV X m_Law_law m_Desk_crash 59 0 0 := ⟨⟨by decide, kw_2_146, kw_1_1, ⟨by decide, by decide, by decide +kernel⟩, by decide, by decide⟩, ⟨_, rfl, rfl⟩, kw_2_144, kw_2_145, (Or.inl kw_4_210)⟩
theorem d_Law_law_352 : decode code 352 = .ok (.aload_n 2, 1) := by decide +kernel
theorem d_Law_law_353 : decode code 353 = .ok (.invokevirtual 62, 3) := by decide +kernel
theorem kw_5_180 : (Jvm.Cond.methodLink "CertificateDeskLaw" (62 : Nat) ({ cls := "CertificateDeskModel", name := "crash", desc := "()V" } : Jvm.MethodName)) ∈ cd_tbl := tb_5 (List.mem_of_getElem? (i := 180) (by decide +kernel)) (by decide)
theorem ca_Law_law_62 {X : cd_E} : cd_CV X m_Law_law m_Mod_crash 62 0 11 := ⟨⟨by decide, kw_5_183, kw_1_10, ⟨by decide, by decide, by decide +kernel⟩, by decide, by decide⟩, ⟨_, rfl, rfl⟩, kw_5_181, kw_5_182, (Or.inl kw_5_180)⟩
theorem d_Law_law_356 : decode code 356 = .ok (.goto 233, 3) := by decide +kernel
theorem g_Law_law_348 {X : cd_E} {kc ks : Nat} {h : cd_H} {Q : Option Value → cd_H → Prop} {v3 : Int32} (H : (cd_k h 64 = some (.inl 0)) ∧ (cd_W X m_Desk_crash 0 0 0 [some (.ref 64), none] [] h (fun r2 h3 => (r2 = none) ∧ ((cd_k h3 82 = some (.inl 11)) ∧ (cd_W X m_Mod_crash 0 0 0 [some (.ref 82), none] [] h3 (fun r5 h6 => (r5 = none) ∧ (cd_W X m_Law_law kc ks 28 [some (.ref 35), some (.ref 64), some (.ref 82), some (.int (v3 + 5))] [] h6 Q))))))) : cd_W X m_Law_law kc ks 348 [some (.ref 35), some (.ref 64), some (.ref 82), some (.int v3)] [] h Q := by
  refine cd_aload_n (i := 1) (v := .ref 64) d_Law_law_348 rfl rfl (cd_isr_ref _) ?_
  show cd_W X m_Law_law kc ks 349 [some (.ref 35), some (.ref 64), some (.ref 82), some (.int v3)] [.ref 64] h Q
  obtain ⟨c1, H⟩ := H
  refine cd_callV (kc := kc) (ks := ks) (kc' := 0) (ks' := 0) (As := []) (S := []) d_Law_law_349 ca_Law_law_59 c1 rfl (Nat.le_of_ble_eq_true rfl) (Nat.le_of_ble_eq_true rfl) ?_
  refine cd_W.mono (fun r2 h3 H => ?_) H
  obtain ⟨rfl, H⟩ := H
  show cd_W X m_Law_law kc ks 352 [some (.ref 35), some (.ref 64), some (.ref 82), some (.int v3)] [] h3 Q
  refine cd_aload_n (i := 2) (v := .ref 82) d_Law_law_352 rfl rfl (cd_isr_ref _) ?_
  obtain ⟨c4, H⟩ := H
  refine cd_callV (kc := kc) (ks := ks) (kc' := 0) (ks' := 0) (As := []) (S := []) d_Law_law_353 ca_Law_law_62 c4 rfl (Nat.le_of_ble_eq_true rfl) (Nat.le_of_ble_eq_true rfl) ?_
  refine cd_W.mono (fun r5 h6 H => ?_) H
  obtain ⟨rfl, H⟩ := H
  show cd_W X m_Law_law kc ks 356 [some (.ref 35), some (.ref 64), some (.ref 82), some (.int v3)] [] h6 Q
  refine cd_goto (tgt := 589) d_Law_law_356 (by decide) ?_
  refine cd_iinc (i := 3) (v := (v3 + 5)) d_Law_law_589 rfl (cd_inc5 _) (by decide) ?_
  show cd_W X m_Law_law kc ks 592 [some (.ref 35), some (.ref 64), some (.ref 82), some (.int (v3 + 5))] [] h6 Q
  refine cd_goto (tgt := 28) d_Law_law_592 (by decide) ?_
  exact H

theorem d_Law_law_359 : decode code 359 = .ok (.aload_n 1, 1) := by decide +kernel
theorem d_Law_law_360 : decode code 360 = .ok (.invokevirtual 63, 3) := by decide +kernel
theorem kw_4_211 : (Jvm.Cond.methodLink "CertificateDeskLaw" (63 : Nat) ({ cls := "CertificateDesk", name := "words", desc := "()I" } : Jvm.MethodName)) ∈ cd_tbl := tb_4 (List.mem_of_getElem? (i := 211) (by decide +kernel)) (by decide)
theorem kw_4_214 : (Jvm.Cond.code ({ cls := "CertificateDesk", name := "words", desc := "()I" } : Jvm.MethodName) prog_1_method_11_code (1 : Nat) (Option.some Jvm.ClassFile.FieldType.int)) ∈ cd_tbl := tb_4 (List.mem_of_getElem? (i := 214) (by decide +kernel)) (by decide)
theorem kw_4_212 : (Jvm.Cond.instanceMethod ({ cls := "CertificateDesk", name := "words", desc := "()I" } : Jvm.MethodName)) ∈ cd_tbl := tb_4 (List.mem_of_getElem? (i := 212) (by decide +kernel)) (by decide)
theorem kw_4_213 : (Jvm.Cond.selects "CertificateDesk" ({ cls := "CertificateDesk", name := "words", desc := "()I" } : Jvm.MethodName) ({ cls := "CertificateDesk", name := "words", desc := "()I" } : Jvm.MethodName)) ∈ cd_tbl := tb_4 (List.mem_of_getElem? (i := 213) (by decide +kernel)) (by decide)
theorem ca_Law_law_63 {X : cd_E} : cd_CV X m_Law_law m_Desk_words 63 0 0 := ⟨⟨by decide, kw_4_214, kw_1_1, ⟨by decide, by decide, by decide +kernel⟩, by decide, by decide⟩, ⟨_, rfl, rfl⟩, kw_4_212, kw_4_213, (Or.inl kw_4_211)⟩
theorem d_Law_law_363 : decode code 363 = .ok (.aload_n 2, 1) := by decide +kernel
theorem d_Law_law_364 : decode code 364 = .ok (.invokevirtual 66, 3) := by decide +kernel
theorem kw_5_184 : (Jvm.Cond.methodLink "CertificateDeskLaw" (66 : Nat) ({ cls := "CertificateDeskModel", name := "words", desc := "()I" } : Jvm.MethodName)) ∈ cd_tbl := tb_5 (List.mem_of_getElem? (i := 184) (by decide +kernel)) (by decide)
theorem kw_5_187 : (Jvm.Cond.code ({ cls := "CertificateDeskModel", name := "words", desc := "()I" } : Jvm.MethodName) prog_14_method_33_code (1 : Nat) (Option.some Jvm.ClassFile.FieldType.int)) ∈ cd_tbl := tb_5 (List.mem_of_getElem? (i := 187) (by decide +kernel)) (by decide)
theorem kw_5_185 : (Jvm.Cond.instanceMethod ({ cls := "CertificateDeskModel", name := "words", desc := "()I" } : Jvm.MethodName)) ∈ cd_tbl := tb_5 (List.mem_of_getElem? (i := 185) (by decide +kernel)) (by decide)
theorem kw_5_186 : (Jvm.Cond.selects "CertificateDeskModel" ({ cls := "CertificateDeskModel", name := "words", desc := "()I" } : Jvm.MethodName) ({ cls := "CertificateDeskModel", name := "words", desc := "()I" } : Jvm.MethodName)) ∈ cd_tbl := tb_5 (List.mem_of_getElem? (i := 186) (by decide +kernel)) (by decide)
theorem ca_Law_law_66 {X : cd_E} : cd_CV X m_Law_law m_Mod_words 66 0 11 := ⟨⟨by decide, kw_5_187, kw_1_10, ⟨by decide, by decide, by decide +kernel⟩, by decide, by decide⟩, ⟨_, rfl, rfl⟩, kw_5_185, kw_5_186, (Or.inl kw_5_184)⟩
theorem d_Law_law_367 : decode code 367 = .ok (.if_icmp .eq 222, 3) := by decide +kernel
theorem d_Law_law_370 : decode code 370 = .ok (.iconst 0, 1) := by decide +kernel
theorem d_Law_law_371 : decode code 371 = .ok (.ireturn, 1) := by decide +kernel
theorem g_Law_law_359 {X : cd_E} {kc ks : Nat} {h : cd_H} {Q : Option Value → cd_H → Prop} {v3 : Int32} (H : (cd_k h 64 = some (.inl 0)) ∧ (cd_W X m_Desk_words 0 0 0 [some (.ref 64)] [] h (fun r2 h3 => ∃ x4 : Int32, r2 = some (.int x4) ∧ ((cd_k h3 82 = some (.inl 11)) ∧ (cd_W X m_Mod_words 0 0 0 [some (.ref 82)] [] h3 (fun r6 h7 => ∃ x8 : Int32, r6 = some (.int x8) ∧ ((((x4 = x8) → (cd_W X m_Law_law kc ks 28 [some (.ref 35), some (.ref 64), some (.ref 82), some (.int (v3 + 5))] [] h7 Q)) ∧ ((¬ x4 = x8) → (Q (some (.int 0)) h7)))))))))) : cd_W X m_Law_law kc ks 359 [some (.ref 35), some (.ref 64), some (.ref 82), some (.int v3)] [] h Q := by
  refine cd_aload_n (i := 1) (v := .ref 64) d_Law_law_359 rfl rfl (cd_isr_ref _) ?_
  obtain ⟨c1, H⟩ := H
  refine cd_callV (kc := kc) (ks := ks) (kc' := 0) (ks' := 0) (As := []) (S := []) d_Law_law_360 ca_Law_law_63 c1 rfl (Nat.le_of_ble_eq_true rfl) (Nat.le_of_ble_eq_true rfl) ?_
  refine cd_W.mono (fun r2 h3 H => ?_) H
  obtain ⟨x4, rfl, H⟩ := H
  show cd_W X m_Law_law kc ks 363 [some (.ref 35), some (.ref 64), some (.ref 82), some (.int v3)] [.int x4] h3 Q
  refine cd_aload_n (i := 2) (v := .ref 82) d_Law_law_363 rfl rfl (cd_isr_ref _) ?_
  obtain ⟨c5, H⟩ := H
  refine cd_callV (kc := kc) (ks := ks) (kc' := 0) (ks' := 0) (As := []) (S := [.int x4]) d_Law_law_364 ca_Law_law_66 c5 rfl (Nat.le_of_ble_eq_true rfl) (Nat.le_of_ble_eq_true rfl) ?_
  refine cd_W.mono (fun r6 h7 H => ?_) H
  obtain ⟨x8, rfl, H⟩ := H
  show cd_W X m_Law_law kc ks 367 [some (.ref 35), some (.ref 64), some (.ref 82), some (.int v3)] [.int x8, .int x4] h7 Q
  refine cd_icmp_eq (tgt := 589) d_Law_law_367 (by decide) (fun t9 => ?_) (fun t9 => ?_)
  · replace H := H.1 t9
    refine cd_iinc (i := 3) (v := (v3 + 5)) d_Law_law_589 rfl (cd_inc5 _) (by decide) ?_
    show cd_W X m_Law_law kc ks 592 [some (.ref 35), some (.ref 64), some (.ref 82), some (.int (v3 + 5))] [] h7 Q
    refine cd_goto (tgt := 28) d_Law_law_592 (by decide) ?_
    exact H
  · replace H := H.2 t9
    refine cd_iconst (v := 0) d_Law_law_370 (by decide) ?_
    show cd_W X m_Law_law kc ks 371 [some (.ref 35), some (.ref 64), some (.ref 82), some (.int v3)] [.int 0] h7 Q
    exact cd_iret d_Law_law_371 rfl rfl H

theorem d_Law_law_372 : decode code 372 = .ok (.aload_n 1, 1) := by decide +kernel
theorem d_Law_law_373 : decode code 373 = .ok (.aload_n 0, 1) := by decide +kernel
theorem d_Law_law_374 : decode code 374 = .ok (.iload_n 3, 1) := by decide +kernel
theorem d_Law_law_375 : decode code 375 = .ok (.iconst 1, 1) := by decide +kernel
theorem d_Law_law_376 : decode code 376 = .ok (.iadd, 1) := by decide +kernel
theorem d_Law_law_377 : decode code 377 = .ok (.iaload, 1) := by decide +kernel
theorem d_Law_law_378 : decode code 378 = .ok (.invokevirtual 67, 3) := by decide +kernel
theorem kw_4_215 : (Jvm.Cond.methodLink "CertificateDeskLaw" (67 : Nat) ({ cls := "CertificateDesk", name := "account", desc := "(I)I" } : Jvm.MethodName)) ∈ cd_tbl := tb_4 (List.mem_of_getElem? (i := 215) (by decide +kernel)) (by decide)
theorem kw_4_218 : (Jvm.Cond.code ({ cls := "CertificateDesk", name := "account", desc := "(I)I" } : Jvm.MethodName) prog_1_method_12_code (3 : Nat) (Option.some Jvm.ClassFile.FieldType.int)) ∈ cd_tbl := tb_4 (List.mem_of_getElem? (i := 218) (by decide +kernel)) (by decide)
theorem kw_4_216 : (Jvm.Cond.instanceMethod ({ cls := "CertificateDesk", name := "account", desc := "(I)I" } : Jvm.MethodName)) ∈ cd_tbl := tb_4 (List.mem_of_getElem? (i := 216) (by decide +kernel)) (by decide)
theorem kw_4_217 : (Jvm.Cond.selects "CertificateDesk" ({ cls := "CertificateDesk", name := "account", desc := "(I)I" } : Jvm.MethodName) ({ cls := "CertificateDesk", name := "account", desc := "(I)I" } : Jvm.MethodName)) ∈ cd_tbl := tb_4 (List.mem_of_getElem? (i := 217) (by decide +kernel)) (by decide)
theorem ca_Law_law_67 {X : cd_E} : cd_CV X m_Law_law m_Desk_account 67 1 0 := ⟨⟨by decide, kw_4_218, kw_1_1, ⟨by decide, by decide, by decide +kernel⟩, by decide, by decide⟩, ⟨_, rfl, rfl⟩, kw_4_216, kw_4_217, (Or.inl kw_4_215)⟩
theorem d_Law_law_381 : decode code 381 = .ok (.aload_n 2, 1) := by decide +kernel
theorem d_Law_law_382 : decode code 382 = .ok (.aload_n 0, 1) := by decide +kernel
theorem d_Law_law_383 : decode code 383 = .ok (.iload_n 3, 1) := by decide +kernel
theorem d_Law_law_384 : decode code 384 = .ok (.iconst 1, 1) := by decide +kernel
theorem d_Law_law_385 : decode code 385 = .ok (.iadd, 1) := by decide +kernel
theorem d_Law_law_386 : decode code 386 = .ok (.iaload, 1) := by decide +kernel
theorem d_Law_law_387 : decode code 387 = .ok (.invokevirtual 71, 3) := by decide +kernel
theorem kw_6_159 : (Jvm.Cond.methodLink "CertificateDeskLaw" (71 : Nat) ({ cls := "CertificateDeskModel", name := "account", desc := "(I)I" } : Jvm.MethodName)) ∈ cd_tbl := tb_6 (List.mem_of_getElem? (i := 159) (by decide +kernel)) (by decide)
theorem kw_6_162 : (Jvm.Cond.code ({ cls := "CertificateDeskModel", name := "account", desc := "(I)I" } : Jvm.MethodName) prog_14_method_57_code (2 : Nat) (Option.some Jvm.ClassFile.FieldType.int)) ∈ cd_tbl := tb_6 (List.mem_of_getElem? (i := 162) (by decide +kernel)) (by decide)
theorem kw_6_160 : (Jvm.Cond.instanceMethod ({ cls := "CertificateDeskModel", name := "account", desc := "(I)I" } : Jvm.MethodName)) ∈ cd_tbl := tb_6 (List.mem_of_getElem? (i := 160) (by decide +kernel)) (by decide)
theorem kw_6_161 : (Jvm.Cond.selects "CertificateDeskModel" ({ cls := "CertificateDeskModel", name := "account", desc := "(I)I" } : Jvm.MethodName) ({ cls := "CertificateDeskModel", name := "account", desc := "(I)I" } : Jvm.MethodName)) ∈ cd_tbl := tb_6 (List.mem_of_getElem? (i := 161) (by decide +kernel)) (by decide)
theorem ca_Law_law_71 {X : cd_E} : cd_CV X m_Law_law m_Mod_account 71 1 11 := ⟨⟨by decide, kw_6_162, kw_1_10, ⟨by decide, by decide, by decide +kernel⟩, by decide, by decide⟩, ⟨_, rfl, rfl⟩, kw_6_160, kw_6_161, (Or.inl kw_6_159)⟩
theorem d_Law_law_390 : decode code 390 = .ok (.if_icmp .eq 199, 3) := by decide +kernel
theorem d_Law_law_393 : decode code 393 = .ok (.iconst 0, 1) := by decide +kernel
theorem d_Law_law_394 : decode code 394 = .ok (.ireturn, 1) := by decide +kernel
theorem g_Law_law_372 {X : cd_E} {kc ks : Nat} {h : cd_H} {Q : Option Value → cd_H → Prop} {v3 : Int32} (H : (vp_in (v3 + 1) (cd_sL X)) ∧ ((cd_k h 64 = some (.inl 0)) ∧ (cd_W X m_Desk_account 0 0 0 [some (.ref 64), some (.int (cd_sx X (v3 + 1).toNatClampNeg)), none] [] h (fun r3 h4 => ∃ x5 : Int32, r3 = some (.int x5) ∧ ((cd_k h4 82 = some (.inl 11)) ∧ (cd_W X m_Mod_account 0 0 0 [some (.ref 82), some (.int (cd_sx X (v3 + 1).toNatClampNeg))] [] h4 (fun r7 h8 => ∃ x9 : Int32, r7 = some (.int x9) ∧ ((((x5 = x9) → (cd_W X m_Law_law kc ks 28 [some (.ref 35), some (.ref 64), some (.ref 82), some (.int (v3 + 5))] [] h8 Q)) ∧ ((¬ x5 = x9) → (Q (some (.int 0)) h8))))))))))) : cd_W X m_Law_law kc ks 372 [some (.ref 35), some (.ref 64), some (.ref 82), some (.int v3)] [] h Q := by
  refine cd_aload_n (i := 1) (v := .ref 64) d_Law_law_372 rfl rfl (cd_isr_ref _) ?_
  refine cd_aload_n (i := 0) (v := .ref 35) d_Law_law_373 rfl rfl (cd_isr_ref _) ?_
  refine cd_iload_n (i := 3) d_Law_law_374 rfl rfl ?_
  refine cd_iconst (v := 1) d_Law_law_375 (by decide) ?_
  refine cd_iadd d_Law_law_376 ?_
  obtain ⟨c1, H⟩ := H
  refine cd_sld (j := (v3 + 1)) d_Law_law_377 c1 ?_
  obtain ⟨c2, H⟩ := H
  refine cd_callV (kc := kc) (ks := ks) (kc' := 0) (ks' := 0) (As := [.int (cd_sx X (v3 + 1).toNatClampNeg)]) (S := []) d_Law_law_378 ca_Law_law_67 c2 rfl (Nat.le_of_ble_eq_true rfl) (Nat.le_of_ble_eq_true rfl) ?_
  refine cd_W.mono (fun r3 h4 H => ?_) H
  obtain ⟨x5, rfl, H⟩ := H
  show cd_W X m_Law_law kc ks 381 [some (.ref 35), some (.ref 64), some (.ref 82), some (.int v3)] [.int x5] h4 Q
  refine cd_aload_n (i := 2) (v := .ref 82) d_Law_law_381 rfl rfl (cd_isr_ref _) ?_
  show cd_W X m_Law_law kc ks 382 [some (.ref 35), some (.ref 64), some (.ref 82), some (.int v3)] [.ref 82, .int x5] h4 Q
  refine cd_aload_n (i := 0) (v := .ref 35) d_Law_law_382 rfl rfl (cd_isr_ref _) ?_
  refine cd_iload_n (i := 3) d_Law_law_383 rfl rfl ?_
  refine cd_iconst (v := 1) d_Law_law_384 (by decide) ?_
  refine cd_iadd d_Law_law_385 ?_
  refine cd_sld (j := (v3 + 1)) d_Law_law_386 c1 ?_
  obtain ⟨c6, H⟩ := H
  refine cd_callV (kc := kc) (ks := ks) (kc' := 0) (ks' := 0) (As := [.int (cd_sx X (v3 + 1).toNatClampNeg)]) (S := [.int x5]) d_Law_law_387 ca_Law_law_71 c6 rfl (Nat.le_of_ble_eq_true rfl) (Nat.le_of_ble_eq_true rfl) ?_
  refine cd_W.mono (fun r7 h8 H => ?_) H
  obtain ⟨x9, rfl, H⟩ := H
  show cd_W X m_Law_law kc ks 390 [some (.ref 35), some (.ref 64), some (.ref 82), some (.int v3)] [.int x9, .int x5] h8 Q
  refine cd_icmp_eq (tgt := 589) d_Law_law_390 (by decide) (fun t10 => ?_) (fun t10 => ?_)
  · replace H := H.1 t10
    refine cd_iinc (i := 3) (v := (v3 + 5)) d_Law_law_589 rfl (cd_inc5 _) (by decide) ?_
    show cd_W X m_Law_law kc ks 592 [some (.ref 35), some (.ref 64), some (.ref 82), some (.int (v3 + 5))] [] h8 Q
    refine cd_goto (tgt := 28) d_Law_law_592 (by decide) ?_
    exact H
  · replace H := H.2 t10
    refine cd_iconst (v := 0) d_Law_law_393 (by decide) ?_
    show cd_W X m_Law_law kc ks 394 [some (.ref 35), some (.ref 64), some (.ref 82), some (.int v3)] [.int 0] h8 Q
    exact cd_iret d_Law_law_394 rfl rfl H

theorem d_Law_law_395 : decode code 395 = .ok (.aload_n 1, 1) := by decide +kernel
theorem d_Law_law_396 : decode code 396 = .ok (.aload_n 0, 1) := by decide +kernel
theorem d_Law_law_397 : decode code 397 = .ok (.iload_n 3, 1) := by decide +kernel
theorem d_Law_law_398 : decode code 398 = .ok (.iconst 1, 1) := by decide +kernel
theorem d_Law_law_399 : decode code 399 = .ok (.iadd, 1) := by decide +kernel
theorem d_Law_law_400 : decode code 400 = .ok (.iaload, 1) := by decide +kernel
theorem d_Law_law_401 : decode code 401 = .ok (.invokevirtual 72, 3) := by decide +kernel
theorem kw_4_219 : (Jvm.Cond.methodLink "CertificateDeskLaw" (72 : Nat) ({ cls := "CertificateDesk", name := "order", desc := "(I)I" } : Jvm.MethodName)) ∈ cd_tbl := tb_4 (List.mem_of_getElem? (i := 219) (by decide +kernel)) (by decide)
theorem kw_4_222 : (Jvm.Cond.code ({ cls := "CertificateDesk", name := "order", desc := "(I)I" } : Jvm.MethodName) prog_1_method_13_code (3 : Nat) (Option.some Jvm.ClassFile.FieldType.int)) ∈ cd_tbl := tb_4 (List.mem_of_getElem? (i := 222) (by decide +kernel)) (by decide)
theorem kw_4_220 : (Jvm.Cond.instanceMethod ({ cls := "CertificateDesk", name := "order", desc := "(I)I" } : Jvm.MethodName)) ∈ cd_tbl := tb_4 (List.mem_of_getElem? (i := 220) (by decide +kernel)) (by decide)
theorem kw_4_221 : (Jvm.Cond.selects "CertificateDesk" ({ cls := "CertificateDesk", name := "order", desc := "(I)I" } : Jvm.MethodName) ({ cls := "CertificateDesk", name := "order", desc := "(I)I" } : Jvm.MethodName)) ∈ cd_tbl := tb_4 (List.mem_of_getElem? (i := 221) (by decide +kernel)) (by decide)
theorem ca_Law_law_72 {X : cd_E} : cd_CV X m_Law_law m_Desk_order 72 1 0 := ⟨⟨by decide, kw_4_222, kw_1_1, ⟨by decide, by decide, by decide +kernel⟩, by decide, by decide⟩, ⟨_, rfl, rfl⟩, kw_4_220, kw_4_221, (Or.inl kw_4_219)⟩
theorem d_Law_law_404 : decode code 404 = .ok (.aload_n 2, 1) := by decide +kernel
theorem d_Law_law_405 : decode code 405 = .ok (.aload_n 0, 1) := by decide +kernel
theorem d_Law_law_406 : decode code 406 = .ok (.iload_n 3, 1) := by decide +kernel
theorem d_Law_law_407 : decode code 407 = .ok (.iconst 1, 1) := by decide +kernel
theorem d_Law_law_408 : decode code 408 = .ok (.iadd, 1) := by decide +kernel
theorem d_Law_law_409 : decode code 409 = .ok (.iaload, 1) := by decide +kernel
theorem d_Law_law_410 : decode code 410 = .ok (.invokevirtual 75, 3) := by decide +kernel
theorem kw_5_171 : (Jvm.Cond.methodLink "CertificateDeskLaw" (75 : Nat) ({ cls := "CertificateDeskModel", name := "order", desc := "(I)I" } : Jvm.MethodName)) ∈ cd_tbl := tb_5 (List.mem_of_getElem? (i := 171) (by decide +kernel)) (by decide)
theorem ca_Law_law_75 {X : cd_E} : cd_CV X m_Law_law m_Mod_order 75 1 11 := ⟨⟨by decide, kw_5_174, kw_1_10, ⟨by decide, by decide, by decide +kernel⟩, by decide, by decide⟩, ⟨_, rfl, rfl⟩, kw_5_172, kw_5_173, (Or.inl kw_5_171)⟩
theorem d_Law_law_413 : decode code 413 = .ok (.if_icmp .eq 176, 3) := by decide +kernel
theorem d_Law_law_416 : decode code 416 = .ok (.iconst 0, 1) := by decide +kernel
theorem d_Law_law_417 : decode code 417 = .ok (.ireturn, 1) := by decide +kernel
theorem g_Law_law_395 {X : cd_E} {kc ks : Nat} {h : cd_H} {Q : Option Value → cd_H → Prop} {v3 : Int32} (H : (vp_in (v3 + 1) (cd_sL X)) ∧ ((cd_k h 64 = some (.inl 0)) ∧ (cd_W X m_Desk_order 0 0 0 [some (.ref 64), some (.int (cd_sx X (v3 + 1).toNatClampNeg)), none] [] h (fun r3 h4 => ∃ x5 : Int32, r3 = some (.int x5) ∧ ((cd_k h4 82 = some (.inl 11)) ∧ (cd_W X m_Mod_order 0 0 0 [some (.ref 82), some (.int (cd_sx X (v3 + 1).toNatClampNeg)), none, none, none, none] [] h4 (fun r7 h8 => ∃ x9 : Int32, r7 = some (.int x9) ∧ ((((x5 = x9) → (cd_W X m_Law_law kc ks 28 [some (.ref 35), some (.ref 64), some (.ref 82), some (.int (v3 + 5))] [] h8 Q)) ∧ ((¬ x5 = x9) → (Q (some (.int 0)) h8))))))))))) : cd_W X m_Law_law kc ks 395 [some (.ref 35), some (.ref 64), some (.ref 82), some (.int v3)] [] h Q := by
  refine cd_aload_n (i := 1) (v := .ref 64) d_Law_law_395 rfl rfl (cd_isr_ref _) ?_
  refine cd_aload_n (i := 0) (v := .ref 35) d_Law_law_396 rfl rfl (cd_isr_ref _) ?_
  refine cd_iload_n (i := 3) d_Law_law_397 rfl rfl ?_
  refine cd_iconst (v := 1) d_Law_law_398 (by decide) ?_
  refine cd_iadd d_Law_law_399 ?_
  obtain ⟨c1, H⟩ := H
  refine cd_sld (j := (v3 + 1)) d_Law_law_400 c1 ?_
  obtain ⟨c2, H⟩ := H
  refine cd_callV (kc := kc) (ks := ks) (kc' := 0) (ks' := 0) (As := [.int (cd_sx X (v3 + 1).toNatClampNeg)]) (S := []) d_Law_law_401 ca_Law_law_72 c2 rfl (Nat.le_of_ble_eq_true rfl) (Nat.le_of_ble_eq_true rfl) ?_
  refine cd_W.mono (fun r3 h4 H => ?_) H
  obtain ⟨x5, rfl, H⟩ := H
  show cd_W X m_Law_law kc ks 404 [some (.ref 35), some (.ref 64), some (.ref 82), some (.int v3)] [.int x5] h4 Q
  refine cd_aload_n (i := 2) (v := .ref 82) d_Law_law_404 rfl rfl (cd_isr_ref _) ?_
  show cd_W X m_Law_law kc ks 405 [some (.ref 35), some (.ref 64), some (.ref 82), some (.int v3)] [.ref 82, .int x5] h4 Q
  refine cd_aload_n (i := 0) (v := .ref 35) d_Law_law_405 rfl rfl (cd_isr_ref _) ?_
  refine cd_iload_n (i := 3) d_Law_law_406 rfl rfl ?_
  refine cd_iconst (v := 1) d_Law_law_407 (by decide) ?_
  refine cd_iadd d_Law_law_408 ?_
  refine cd_sld (j := (v3 + 1)) d_Law_law_409 c1 ?_
  obtain ⟨c6, H⟩ := H
  refine cd_callV (kc := kc) (ks := ks) (kc' := 0) (ks' := 0) (As := [.int (cd_sx X (v3 + 1).toNatClampNeg)]) (S := [.int x5]) d_Law_law_410 ca_Law_law_75 c6 rfl (Nat.le_of_ble_eq_true rfl) (Nat.le_of_ble_eq_true rfl) ?_
  refine cd_W.mono (fun r7 h8 H => ?_) H
  obtain ⟨x9, rfl, H⟩ := H
  show cd_W X m_Law_law kc ks 413 [some (.ref 35), some (.ref 64), some (.ref 82), some (.int v3)] [.int x9, .int x5] h8 Q
  refine cd_icmp_eq (tgt := 589) d_Law_law_413 (by decide) (fun t10 => ?_) (fun t10 => ?_)
  · replace H := H.1 t10
    refine cd_iinc (i := 3) (v := (v3 + 5)) d_Law_law_589 rfl (cd_inc5 _) (by decide) ?_
    show cd_W X m_Law_law kc ks 592 [some (.ref 35), some (.ref 64), some (.ref 82), some (.int (v3 + 5))] [] h8 Q
    refine cd_goto (tgt := 28) d_Law_law_592 (by decide) ?_
    exact H
  · replace H := H.2 t10
    refine cd_iconst (v := 0) d_Law_law_416 (by decide) ?_
    show cd_W X m_Law_law kc ks 417 [some (.ref 35), some (.ref 64), some (.ref 82), some (.int v3)] [.int 0] h8 Q
    exact cd_iret d_Law_law_417 rfl rfl H

theorem d_Law_law_418 : decode code 418 = .ok (.aload_n 1, 1) := by decide +kernel
theorem d_Law_law_419 : decode code 419 = .ok (.aload_n 0, 1) := by decide +kernel
theorem d_Law_law_420 : decode code 420 = .ok (.iload_n 3, 1) := by decide +kernel
theorem d_Law_law_421 : decode code 421 = .ok (.iconst 1, 1) := by decide +kernel
theorem d_Law_law_422 : decode code 422 = .ok (.iadd, 1) := by decide +kernel
theorem d_Law_law_423 : decode code 423 = .ok (.iaload, 1) := by decide +kernel
theorem d_Law_law_424 : decode code 424 = .ok (.aload_n 0, 1) := by decide +kernel
theorem d_Law_law_425 : decode code 425 = .ok (.iload_n 3, 1) := by decide +kernel
theorem d_Law_law_426 : decode code 426 = .ok (.iconst 2, 1) := by decide +kernel
theorem d_Law_law_427 : decode code 427 = .ok (.iadd, 1) := by decide +kernel
theorem d_Law_law_428 : decode code 428 = .ok (.iaload, 1) := by decide +kernel
theorem d_Law_law_429 : decode code 429 = .ok (.invokevirtual 76, 3) := by decide +kernel
theorem kw_4_223 : (Jvm.Cond.methodLink "CertificateDeskLaw" (76 : Nat) ({ cls := "CertificateDesk", name := "authorization", desc := "(II)I" } : Jvm.MethodName)) ∈ cd_tbl := tb_4 (List.mem_of_getElem? (i := 223) (by decide +kernel)) (by decide)
theorem kw_4_226 : (Jvm.Cond.code ({ cls := "CertificateDesk", name := "authorization", desc := "(II)I" } : Jvm.MethodName) prog_1_method_14_code (4 : Nat) (Option.some Jvm.ClassFile.FieldType.int)) ∈ cd_tbl := tb_4 (List.mem_of_getElem? (i := 226) (by decide +kernel)) (by decide)
theorem kw_4_224 : (Jvm.Cond.instanceMethod ({ cls := "CertificateDesk", name := "authorization", desc := "(II)I" } : Jvm.MethodName)) ∈ cd_tbl := tb_4 (List.mem_of_getElem? (i := 224) (by decide +kernel)) (by decide)
theorem kw_4_225 : (Jvm.Cond.selects "CertificateDesk" ({ cls := "CertificateDesk", name := "authorization", desc := "(II)I" } : Jvm.MethodName) ({ cls := "CertificateDesk", name := "authorization", desc := "(II)I" } : Jvm.MethodName)) ∈ cd_tbl := tb_4 (List.mem_of_getElem? (i := 225) (by decide +kernel)) (by decide)
theorem ca_Law_law_76 {X : cd_E} : cd_CV X m_Law_law m_Desk_authorization 76 2 0 := ⟨⟨by decide, kw_4_226, kw_1_1, ⟨by decide, by decide, by decide +kernel⟩, by decide, by decide⟩, ⟨_, rfl, rfl⟩, kw_4_224, kw_4_225, (Or.inl kw_4_223)⟩
theorem d_Law_law_432 : decode code 432 = .ok (.aload_n 2, 1) := by decide +kernel
theorem d_Law_law_433 : decode code 433 = .ok (.aload_n 0, 1) := by decide +kernel
theorem d_Law_law_434 : decode code 434 = .ok (.iload_n 3, 1) := by decide +kernel
theorem d_Law_law_435 : decode code 435 = .ok (.iconst 1, 1) := by decide +kernel
theorem d_Law_law_436 : decode code 436 = .ok (.iadd, 1) := by decide +kernel
theorem d_Law_law_437 : decode code 437 = .ok (.iaload, 1) := by decide +kernel
theorem d_Law_law_438 : decode code 438 = .ok (.aload_n 0, 1) := by decide +kernel
theorem d_Law_law_439 : decode code 439 = .ok (.iload_n 3, 1) := by decide +kernel
theorem d_Law_law_440 : decode code 440 = .ok (.iconst 2, 1) := by decide +kernel
theorem d_Law_law_441 : decode code 441 = .ok (.iadd, 1) := by decide +kernel
theorem d_Law_law_442 : decode code 442 = .ok (.iaload, 1) := by decide +kernel
theorem d_Law_law_443 : decode code 443 = .ok (.invokevirtual 80, 3) := by decide +kernel
theorem kw_6_163 : (Jvm.Cond.methodLink "CertificateDeskLaw" (80 : Nat) ({ cls := "CertificateDeskModel", name := "authorization", desc := "(II)I" } : Jvm.MethodName)) ∈ cd_tbl := tb_6 (List.mem_of_getElem? (i := 163) (by decide +kernel)) (by decide)
theorem kw_6_166 : (Jvm.Cond.code ({ cls := "CertificateDeskModel", name := "authorization", desc := "(II)I" } : Jvm.MethodName) prog_14_method_58_code (3 : Nat) (Option.some Jvm.ClassFile.FieldType.int)) ∈ cd_tbl := tb_6 (List.mem_of_getElem? (i := 166) (by decide +kernel)) (by decide)
theorem kw_6_164 : (Jvm.Cond.instanceMethod ({ cls := "CertificateDeskModel", name := "authorization", desc := "(II)I" } : Jvm.MethodName)) ∈ cd_tbl := tb_6 (List.mem_of_getElem? (i := 164) (by decide +kernel)) (by decide)
theorem kw_6_165 : (Jvm.Cond.selects "CertificateDeskModel" ({ cls := "CertificateDeskModel", name := "authorization", desc := "(II)I" } : Jvm.MethodName) ({ cls := "CertificateDeskModel", name := "authorization", desc := "(II)I" } : Jvm.MethodName)) ∈ cd_tbl := tb_6 (List.mem_of_getElem? (i := 165) (by decide +kernel)) (by decide)
theorem ca_Law_law_80 {X : cd_E} : cd_CV X m_Law_law m_Mod_authorization 80 2 11 := ⟨⟨by decide, kw_6_166, kw_1_10, ⟨by decide, by decide, by decide +kernel⟩, by decide, by decide⟩, ⟨_, rfl, rfl⟩, kw_6_164, kw_6_165, (Or.inl kw_6_163)⟩
theorem d_Law_law_446 : decode code 446 = .ok (.if_icmp .eq 143, 3) := by decide +kernel
theorem d_Law_law_449 : decode code 449 = .ok (.iconst 0, 1) := by decide +kernel
theorem d_Law_law_450 : decode code 450 = .ok (.ireturn, 1) := by decide +kernel
theorem g_Law_law_418 {X : cd_E} {kc ks : Nat} {h : cd_H} {Q : Option Value → cd_H → Prop} {v3 : Int32} (H : (vp_in (v3 + 1) (cd_sL X)) ∧ ((vp_in (v3 + 2) (cd_sL X)) ∧ ((cd_k h 64 = some (.inl 0)) ∧ (cd_W X m_Desk_authorization 0 0 0 [some (.ref 64), some (.int (cd_sx X (v3 + 1).toNatClampNeg)), some (.int (cd_sx X (v3 + 2).toNatClampNeg)), none] [] h (fun r4 h5 => ∃ x6 : Int32, r4 = some (.int x6) ∧ ((cd_k h5 82 = some (.inl 11)) ∧ (cd_W X m_Mod_authorization 0 0 0 [some (.ref 82), some (.int (cd_sx X (v3 + 1).toNatClampNeg)), some (.int (cd_sx X (v3 + 2).toNatClampNeg))] [] h5 (fun r8 h9 => ∃ x10 : Int32, r8 = some (.int x10) ∧ ((((x6 = x10) → (cd_W X m_Law_law kc ks 28 [some (.ref 35), some (.ref 64), some (.ref 82), some (.int (v3 + 5))] [] h9 Q)) ∧ ((¬ x6 = x10) → (Q (some (.int 0)) h9)))))))))))) : cd_W X m_Law_law kc ks 418 [some (.ref 35), some (.ref 64), some (.ref 82), some (.int v3)] [] h Q := by
  refine cd_aload_n (i := 1) (v := .ref 64) d_Law_law_418 rfl rfl (cd_isr_ref _) ?_
  refine cd_aload_n (i := 0) (v := .ref 35) d_Law_law_419 rfl rfl (cd_isr_ref _) ?_
  show cd_W X m_Law_law kc ks 420 [some (.ref 35), some (.ref 64), some (.ref 82), some (.int v3)] [.ref 35, .ref 64] h Q
  refine cd_iload_n (i := 3) d_Law_law_420 rfl rfl ?_
  refine cd_iconst (v := 1) d_Law_law_421 (by decide) ?_
  refine cd_iadd d_Law_law_422 ?_
  obtain ⟨c1, H⟩ := H
  refine cd_sld (j := (v3 + 1)) d_Law_law_423 c1 ?_
  refine cd_aload_n (i := 0) (v := .ref 35) d_Law_law_424 rfl rfl (cd_isr_ref _) ?_
  refine cd_iload_n (i := 3) d_Law_law_425 rfl rfl ?_
  refine cd_iconst (v := 2) d_Law_law_426 (by decide) ?_
  refine cd_iadd d_Law_law_427 ?_
  show cd_W X m_Law_law kc ks 428 [some (.ref 35), some (.ref 64), some (.ref 82), some (.int v3)] [.int (v3 + 2), .ref 35, .int (cd_sx X (v3 + 1).toNatClampNeg), .ref 64] h Q
  obtain ⟨c2, H⟩ := H
  refine cd_sld (j := (v3 + 2)) d_Law_law_428 c2 ?_
  obtain ⟨c3, H⟩ := H
  refine cd_callV (kc := kc) (ks := ks) (kc' := 0) (ks' := 0) (As := [.int (cd_sx X (v3 + 1).toNatClampNeg), .int (cd_sx X (v3 + 2).toNatClampNeg)]) (S := []) d_Law_law_429 ca_Law_law_76 c3 rfl (Nat.le_of_ble_eq_true rfl) (Nat.le_of_ble_eq_true rfl) ?_
  refine cd_W.mono (fun r4 h5 H => ?_) H
  obtain ⟨x6, rfl, H⟩ := H
  show cd_W X m_Law_law kc ks 432 [some (.ref 35), some (.ref 64), some (.ref 82), some (.int v3)] [.int x6] h5 Q
  refine cd_aload_n (i := 2) (v := .ref 82) d_Law_law_432 rfl rfl (cd_isr_ref _) ?_
  refine cd_aload_n (i := 0) (v := .ref 35) d_Law_law_433 rfl rfl (cd_isr_ref _) ?_
  refine cd_iload_n (i := 3) d_Law_law_434 rfl rfl ?_
  refine cd_iconst (v := 1) d_Law_law_435 (by decide) ?_
  refine cd_iadd d_Law_law_436 ?_
  refine cd_sld (j := (v3 + 1)) d_Law_law_437 c1 ?_
  show cd_W X m_Law_law kc ks 438 [some (.ref 35), some (.ref 64), some (.ref 82), some (.int v3)] [.int (cd_sx X (v3 + 1).toNatClampNeg), .ref 82, .int x6] h5 Q
  refine cd_aload_n (i := 0) (v := .ref 35) d_Law_law_438 rfl rfl (cd_isr_ref _) ?_
  refine cd_iload_n (i := 3) d_Law_law_439 rfl rfl ?_
  refine cd_iconst (v := 2) d_Law_law_440 (by decide) ?_
  refine cd_iadd d_Law_law_441 ?_
  refine cd_sld (j := (v3 + 2)) d_Law_law_442 c2 ?_
  obtain ⟨c7, H⟩ := H
  refine cd_callV (kc := kc) (ks := ks) (kc' := 0) (ks' := 0) (As := [.int (cd_sx X (v3 + 1).toNatClampNeg), .int (cd_sx X (v3 + 2).toNatClampNeg)]) (S := [.int x6]) d_Law_law_443 ca_Law_law_80 c7 rfl (Nat.le_of_ble_eq_true rfl) (Nat.le_of_ble_eq_true rfl) ?_
  refine cd_W.mono (fun r8 h9 H => ?_) H
  obtain ⟨x10, rfl, H⟩ := H
  show cd_W X m_Law_law kc ks 446 [some (.ref 35), some (.ref 64), some (.ref 82), some (.int v3)] [.int x10, .int x6] h9 Q
  refine cd_icmp_eq (tgt := 589) d_Law_law_446 (by decide) (fun t11 => ?_) (fun t11 => ?_)
  · replace H := H.1 t11
    refine cd_iinc (i := 3) (v := (v3 + 5)) d_Law_law_589 rfl (cd_inc5 _) (by decide) ?_
    show cd_W X m_Law_law kc ks 592 [some (.ref 35), some (.ref 64), some (.ref 82), some (.int (v3 + 5))] [] h9 Q
    refine cd_goto (tgt := 28) d_Law_law_592 (by decide) ?_
    exact H
  · replace H := H.2 t11
    refine cd_iconst (v := 0) d_Law_law_449 (by decide) ?_
    show cd_W X m_Law_law kc ks 450 [some (.ref 35), some (.ref 64), some (.ref 82), some (.int v3)] [.int 0] h9 Q
    exact cd_iret d_Law_law_450 rfl rfl H

theorem d_Law_law_451 : decode code 451 = .ok (.aload_n 1, 1) := by decide +kernel
theorem d_Law_law_452 : decode code 452 = .ok (.aload_n 0, 1) := by decide +kernel
theorem d_Law_law_453 : decode code 453 = .ok (.iload_n 3, 1) := by decide +kernel
theorem d_Law_law_454 : decode code 454 = .ok (.iconst 1, 1) := by decide +kernel
theorem d_Law_law_455 : decode code 455 = .ok (.iadd, 1) := by decide +kernel
theorem d_Law_law_456 : decode code 456 = .ok (.iaload, 1) := by decide +kernel
theorem d_Law_law_457 : decode code 457 = .ok (.invokevirtual 81, 3) := by decide +kernel
theorem kw_4_227 : (Jvm.Cond.methodLink "CertificateDeskLaw" (81 : Nat) ({ cls := "CertificateDesk", name := "state", desc := "(I)I" } : Jvm.MethodName)) ∈ cd_tbl := tb_4 (List.mem_of_getElem? (i := 227) (by decide +kernel)) (by decide)
theorem kw_4_230 : (Jvm.Cond.code ({ cls := "CertificateDesk", name := "state", desc := "(I)I" } : Jvm.MethodName) prog_1_method_15_code (3 : Nat) (Option.some Jvm.ClassFile.FieldType.int)) ∈ cd_tbl := tb_4 (List.mem_of_getElem? (i := 230) (by decide +kernel)) (by decide)
theorem kw_4_228 : (Jvm.Cond.instanceMethod ({ cls := "CertificateDesk", name := "state", desc := "(I)I" } : Jvm.MethodName)) ∈ cd_tbl := tb_4 (List.mem_of_getElem? (i := 228) (by decide +kernel)) (by decide)
theorem kw_4_229 : (Jvm.Cond.selects "CertificateDesk" ({ cls := "CertificateDesk", name := "state", desc := "(I)I" } : Jvm.MethodName) ({ cls := "CertificateDesk", name := "state", desc := "(I)I" } : Jvm.MethodName)) ∈ cd_tbl := tb_4 (List.mem_of_getElem? (i := 229) (by decide +kernel)) (by decide)
theorem ca_Law_law_81 {X : cd_E} : cd_CV X m_Law_law m_Desk_state 81 1 0 := ⟨⟨by decide, kw_4_230, kw_1_1, ⟨by decide, by decide, by decide +kernel⟩, by decide, by decide⟩, ⟨_, rfl, rfl⟩, kw_4_228, kw_4_229, (Or.inl kw_4_227)⟩
theorem d_Law_law_460 : decode code 460 = .ok (.aload_n 2, 1) := by decide +kernel
theorem d_Law_law_461 : decode code 461 = .ok (.aload_n 0, 1) := by decide +kernel
theorem d_Law_law_462 : decode code 462 = .ok (.iload_n 3, 1) := by decide +kernel
theorem d_Law_law_463 : decode code 463 = .ok (.iconst 1, 1) := by decide +kernel
theorem d_Law_law_464 : decode code 464 = .ok (.iadd, 1) := by decide +kernel
theorem d_Law_law_465 : decode code 465 = .ok (.iaload, 1) := by decide +kernel
theorem d_Law_law_466 : decode code 466 = .ok (.invokevirtual 84, 3) := by decide +kernel
theorem kw_5_167 : (Jvm.Cond.methodLink "CertificateDeskLaw" (84 : Nat) ({ cls := "CertificateDeskModel", name := "state", desc := "(I)I" } : Jvm.MethodName)) ∈ cd_tbl := tb_5 (List.mem_of_getElem? (i := 167) (by decide +kernel)) (by decide)
theorem ca_Law_law_84 {X : cd_E} : cd_CV X m_Law_law m_Mod_state 84 1 11 := ⟨⟨by decide, kw_5_170, kw_1_10, ⟨by decide, by decide, by decide +kernel⟩, by decide, by decide⟩, ⟨_, rfl, rfl⟩, kw_5_168, kw_5_169, (Or.inl kw_5_167)⟩
theorem d_Law_law_469 : decode code 469 = .ok (.if_icmp .eq 120, 3) := by decide +kernel
theorem d_Law_law_472 : decode code 472 = .ok (.iconst 0, 1) := by decide +kernel
theorem d_Law_law_473 : decode code 473 = .ok (.ireturn, 1) := by decide +kernel
theorem g_Law_law_451 {X : cd_E} {kc ks : Nat} {h : cd_H} {Q : Option Value → cd_H → Prop} {v3 : Int32} (H : (vp_in (v3 + 1) (cd_sL X)) ∧ ((cd_k h 64 = some (.inl 0)) ∧ (cd_W X m_Desk_state 0 0 0 [some (.ref 64), some (.int (cd_sx X (v3 + 1).toNatClampNeg)), none] [] h (fun r3 h4 => ∃ x5 : Int32, r3 = some (.int x5) ∧ ((cd_k h4 82 = some (.inl 11)) ∧ (cd_W X m_Mod_state 0 0 0 [some (.ref 82), some (.int (cd_sx X (v3 + 1).toNatClampNeg)), none, none] [] h4 (fun r7 h8 => ∃ x9 : Int32, r7 = some (.int x9) ∧ ((((x5 = x9) → (cd_W X m_Law_law kc ks 28 [some (.ref 35), some (.ref 64), some (.ref 82), some (.int (v3 + 5))] [] h8 Q)) ∧ ((¬ x5 = x9) → (Q (some (.int 0)) h8))))))))))) : cd_W X m_Law_law kc ks 451 [some (.ref 35), some (.ref 64), some (.ref 82), some (.int v3)] [] h Q := by
  refine cd_aload_n (i := 1) (v := .ref 64) d_Law_law_451 rfl rfl (cd_isr_ref _) ?_
  refine cd_aload_n (i := 0) (v := .ref 35) d_Law_law_452 rfl rfl (cd_isr_ref _) ?_
  refine cd_iload_n (i := 3) d_Law_law_453 rfl rfl ?_
  refine cd_iconst (v := 1) d_Law_law_454 (by decide) ?_
  refine cd_iadd d_Law_law_455 ?_
  obtain ⟨c1, H⟩ := H
  refine cd_sld (j := (v3 + 1)) d_Law_law_456 c1 ?_
  obtain ⟨c2, H⟩ := H
  refine cd_callV (kc := kc) (ks := ks) (kc' := 0) (ks' := 0) (As := [.int (cd_sx X (v3 + 1).toNatClampNeg)]) (S := []) d_Law_law_457 ca_Law_law_81 c2 rfl (Nat.le_of_ble_eq_true rfl) (Nat.le_of_ble_eq_true rfl) ?_
  refine cd_W.mono (fun r3 h4 H => ?_) H
  obtain ⟨x5, rfl, H⟩ := H
  show cd_W X m_Law_law kc ks 460 [some (.ref 35), some (.ref 64), some (.ref 82), some (.int v3)] [.int x5] h4 Q
  refine cd_aload_n (i := 2) (v := .ref 82) d_Law_law_460 rfl rfl (cd_isr_ref _) ?_
  show cd_W X m_Law_law kc ks 461 [some (.ref 35), some (.ref 64), some (.ref 82), some (.int v3)] [.ref 82, .int x5] h4 Q
  refine cd_aload_n (i := 0) (v := .ref 35) d_Law_law_461 rfl rfl (cd_isr_ref _) ?_
  refine cd_iload_n (i := 3) d_Law_law_462 rfl rfl ?_
  refine cd_iconst (v := 1) d_Law_law_463 (by decide) ?_
  refine cd_iadd d_Law_law_464 ?_
  refine cd_sld (j := (v3 + 1)) d_Law_law_465 c1 ?_
  obtain ⟨c6, H⟩ := H
  refine cd_callV (kc := kc) (ks := ks) (kc' := 0) (ks' := 0) (As := [.int (cd_sx X (v3 + 1).toNatClampNeg)]) (S := [.int x5]) d_Law_law_466 ca_Law_law_84 c6 rfl (Nat.le_of_ble_eq_true rfl) (Nat.le_of_ble_eq_true rfl) ?_
  refine cd_W.mono (fun r7 h8 H => ?_) H
  obtain ⟨x9, rfl, H⟩ := H
  show cd_W X m_Law_law kc ks 469 [some (.ref 35), some (.ref 64), some (.ref 82), some (.int v3)] [.int x9, .int x5] h8 Q
  refine cd_icmp_eq (tgt := 589) d_Law_law_469 (by decide) (fun t10 => ?_) (fun t10 => ?_)
  · replace H := H.1 t10
    refine cd_iinc (i := 3) (v := (v3 + 5)) d_Law_law_589 rfl (cd_inc5 _) (by decide) ?_
    show cd_W X m_Law_law kc ks 592 [some (.ref 35), some (.ref 64), some (.ref 82), some (.int (v3 + 5))] [] h8 Q
    refine cd_goto (tgt := 28) d_Law_law_592 (by decide) ?_
    exact H
  · replace H := H.2 t10
    refine cd_iconst (v := 0) d_Law_law_472 (by decide) ?_
    show cd_W X m_Law_law kc ks 473 [some (.ref 35), some (.ref 64), some (.ref 82), some (.int v3)] [.int 0] h8 Q
    exact cd_iret d_Law_law_473 rfl rfl H

theorem d_Law_law_474 : decode code 474 = .ok (.aload_n 1, 1) := by decide +kernel
theorem d_Law_law_475 : decode code 475 = .ok (.aload_n 0, 1) := by decide +kernel
theorem d_Law_law_476 : decode code 476 = .ok (.iload_n 3, 1) := by decide +kernel
theorem d_Law_law_477 : decode code 477 = .ok (.iconst 1, 1) := by decide +kernel
theorem d_Law_law_478 : decode code 478 = .ok (.iadd, 1) := by decide +kernel
theorem d_Law_law_479 : decode code 479 = .ok (.iaload, 1) := by decide +kernel
theorem d_Law_law_480 : decode code 480 = .ok (.invokevirtual 85, 3) := by decide +kernel
theorem kw_4_231 : (Jvm.Cond.methodLink "CertificateDeskLaw" (85 : Nat) ({ cls := "CertificateDesk", name := "token", desc := "(I)I" } : Jvm.MethodName)) ∈ cd_tbl := tb_4 (List.mem_of_getElem? (i := 231) (by decide +kernel)) (by decide)
theorem kw_4_234 : (Jvm.Cond.code ({ cls := "CertificateDesk", name := "token", desc := "(I)I" } : Jvm.MethodName) prog_1_method_16_code (3 : Nat) (Option.some Jvm.ClassFile.FieldType.int)) ∈ cd_tbl := tb_4 (List.mem_of_getElem? (i := 234) (by decide +kernel)) (by decide)
theorem kw_4_232 : (Jvm.Cond.instanceMethod ({ cls := "CertificateDesk", name := "token", desc := "(I)I" } : Jvm.MethodName)) ∈ cd_tbl := tb_4 (List.mem_of_getElem? (i := 232) (by decide +kernel)) (by decide)
theorem kw_4_233 : (Jvm.Cond.selects "CertificateDesk" ({ cls := "CertificateDesk", name := "token", desc := "(I)I" } : Jvm.MethodName) ({ cls := "CertificateDesk", name := "token", desc := "(I)I" } : Jvm.MethodName)) ∈ cd_tbl := tb_4 (List.mem_of_getElem? (i := 233) (by decide +kernel)) (by decide)
theorem ca_Law_law_85 {X : cd_E} : cd_CV X m_Law_law m_Desk_token 85 1 0 := ⟨⟨by decide, kw_4_234, kw_1_1, ⟨by decide, by decide, by decide +kernel⟩, by decide, by decide⟩, ⟨_, rfl, rfl⟩, kw_4_232, kw_4_233, (Or.inl kw_4_231)⟩
theorem d_Law_law_483 : decode code 483 = .ok (.aload_n 2, 1) := by decide +kernel
theorem d_Law_law_484 : decode code 484 = .ok (.aload_n 0, 1) := by decide +kernel
theorem d_Law_law_485 : decode code 485 = .ok (.iload_n 3, 1) := by decide +kernel
theorem d_Law_law_486 : decode code 486 = .ok (.iconst 1, 1) := by decide +kernel
theorem d_Law_law_487 : decode code 487 = .ok (.iadd, 1) := by decide +kernel
theorem d_Law_law_488 : decode code 488 = .ok (.iaload, 1) := by decide +kernel
theorem d_Law_law_489 : decode code 489 = .ok (.invokevirtual 88, 3) := by decide +kernel
theorem kw_6_167 : (Jvm.Cond.methodLink "CertificateDeskLaw" (88 : Nat) ({ cls := "CertificateDeskModel", name := "token", desc := "(I)I" } : Jvm.MethodName)) ∈ cd_tbl := tb_6 (List.mem_of_getElem? (i := 167) (by decide +kernel)) (by decide)
theorem kw_6_170 : (Jvm.Cond.code ({ cls := "CertificateDeskModel", name := "token", desc := "(I)I" } : Jvm.MethodName) prog_14_method_59_code (2 : Nat) (Option.some Jvm.ClassFile.FieldType.int)) ∈ cd_tbl := tb_6 (List.mem_of_getElem? (i := 170) (by decide +kernel)) (by decide)
theorem kw_6_168 : (Jvm.Cond.instanceMethod ({ cls := "CertificateDeskModel", name := "token", desc := "(I)I" } : Jvm.MethodName)) ∈ cd_tbl := tb_6 (List.mem_of_getElem? (i := 168) (by decide +kernel)) (by decide)
theorem kw_6_169 : (Jvm.Cond.selects "CertificateDeskModel" ({ cls := "CertificateDeskModel", name := "token", desc := "(I)I" } : Jvm.MethodName) ({ cls := "CertificateDeskModel", name := "token", desc := "(I)I" } : Jvm.MethodName)) ∈ cd_tbl := tb_6 (List.mem_of_getElem? (i := 169) (by decide +kernel)) (by decide)
theorem ca_Law_law_88 {X : cd_E} : cd_CV X m_Law_law m_Mod_token 88 1 11 := ⟨⟨by decide, kw_6_170, kw_1_10, ⟨by decide, by decide, by decide +kernel⟩, by decide, by decide⟩, ⟨_, rfl, rfl⟩, kw_6_168, kw_6_169, (Or.inl kw_6_167)⟩
theorem d_Law_law_492 : decode code 492 = .ok (.if_icmp .eq 97, 3) := by decide +kernel
theorem d_Law_law_495 : decode code 495 = .ok (.iconst 0, 1) := by decide +kernel
theorem d_Law_law_496 : decode code 496 = .ok (.ireturn, 1) := by decide +kernel
theorem g_Law_law_474 {X : cd_E} {kc ks : Nat} {h : cd_H} {Q : Option Value → cd_H → Prop} {v3 : Int32} (H : (vp_in (v3 + 1) (cd_sL X)) ∧ ((cd_k h 64 = some (.inl 0)) ∧ (cd_W X m_Desk_token 0 0 0 [some (.ref 64), some (.int (cd_sx X (v3 + 1).toNatClampNeg)), none] [] h (fun r3 h4 => ∃ x5 : Int32, r3 = some (.int x5) ∧ ((cd_k h4 82 = some (.inl 11)) ∧ (cd_W X m_Mod_token 0 0 0 [some (.ref 82), some (.int (cd_sx X (v3 + 1).toNatClampNeg))] [] h4 (fun r7 h8 => ∃ x9 : Int32, r7 = some (.int x9) ∧ ((((x5 = x9) → (cd_W X m_Law_law kc ks 28 [some (.ref 35), some (.ref 64), some (.ref 82), some (.int (v3 + 5))] [] h8 Q)) ∧ ((¬ x5 = x9) → (Q (some (.int 0)) h8))))))))))) : cd_W X m_Law_law kc ks 474 [some (.ref 35), some (.ref 64), some (.ref 82), some (.int v3)] [] h Q := by
  refine cd_aload_n (i := 1) (v := .ref 64) d_Law_law_474 rfl rfl (cd_isr_ref _) ?_
  refine cd_aload_n (i := 0) (v := .ref 35) d_Law_law_475 rfl rfl (cd_isr_ref _) ?_
  refine cd_iload_n (i := 3) d_Law_law_476 rfl rfl ?_
  refine cd_iconst (v := 1) d_Law_law_477 (by decide) ?_
  refine cd_iadd d_Law_law_478 ?_
  obtain ⟨c1, H⟩ := H
  refine cd_sld (j := (v3 + 1)) d_Law_law_479 c1 ?_
  obtain ⟨c2, H⟩ := H
  refine cd_callV (kc := kc) (ks := ks) (kc' := 0) (ks' := 0) (As := [.int (cd_sx X (v3 + 1).toNatClampNeg)]) (S := []) d_Law_law_480 ca_Law_law_85 c2 rfl (Nat.le_of_ble_eq_true rfl) (Nat.le_of_ble_eq_true rfl) ?_
  refine cd_W.mono (fun r3 h4 H => ?_) H
  obtain ⟨x5, rfl, H⟩ := H
  show cd_W X m_Law_law kc ks 483 [some (.ref 35), some (.ref 64), some (.ref 82), some (.int v3)] [.int x5] h4 Q
  refine cd_aload_n (i := 2) (v := .ref 82) d_Law_law_483 rfl rfl (cd_isr_ref _) ?_
  show cd_W X m_Law_law kc ks 484 [some (.ref 35), some (.ref 64), some (.ref 82), some (.int v3)] [.ref 82, .int x5] h4 Q
  refine cd_aload_n (i := 0) (v := .ref 35) d_Law_law_484 rfl rfl (cd_isr_ref _) ?_
  refine cd_iload_n (i := 3) d_Law_law_485 rfl rfl ?_
  refine cd_iconst (v := 1) d_Law_law_486 (by decide) ?_
  refine cd_iadd d_Law_law_487 ?_
  refine cd_sld (j := (v3 + 1)) d_Law_law_488 c1 ?_
  obtain ⟨c6, H⟩ := H
  refine cd_callV (kc := kc) (ks := ks) (kc' := 0) (ks' := 0) (As := [.int (cd_sx X (v3 + 1).toNatClampNeg)]) (S := [.int x5]) d_Law_law_489 ca_Law_law_88 c6 rfl (Nat.le_of_ble_eq_true rfl) (Nat.le_of_ble_eq_true rfl) ?_
  refine cd_W.mono (fun r7 h8 H => ?_) H
  obtain ⟨x9, rfl, H⟩ := H
  show cd_W X m_Law_law kc ks 492 [some (.ref 35), some (.ref 64), some (.ref 82), some (.int v3)] [.int x9, .int x5] h8 Q
  refine cd_icmp_eq (tgt := 589) d_Law_law_492 (by decide) (fun t10 => ?_) (fun t10 => ?_)
  · replace H := H.1 t10
    refine cd_iinc (i := 3) (v := (v3 + 5)) d_Law_law_589 rfl (cd_inc5 _) (by decide) ?_
    show cd_W X m_Law_law kc ks 592 [some (.ref 35), some (.ref 64), some (.ref 82), some (.int (v3 + 5))] [] h8 Q
    refine cd_goto (tgt := 28) d_Law_law_592 (by decide) ?_
    exact H
  · replace H := H.2 t10
    refine cd_iconst (v := 0) d_Law_law_495 (by decide) ?_
    show cd_W X m_Law_law kc ks 496 [some (.ref 35), some (.ref 64), some (.ref 82), some (.int v3)] [.int 0] h8 Q
    exact cd_iret d_Law_law_496 rfl rfl H

theorem d_Law_law_497 : decode code 497 = .ok (.aload_n 1, 1) := by decide +kernel
theorem d_Law_law_498 : decode code 498 = .ok (.aload_n 0, 1) := by decide +kernel
theorem d_Law_law_499 : decode code 499 = .ok (.iload_n 3, 1) := by decide +kernel
theorem d_Law_law_500 : decode code 500 = .ok (.iconst 1, 1) := by decide +kernel
theorem d_Law_law_501 : decode code 501 = .ok (.iadd, 1) := by decide +kernel
theorem d_Law_law_502 : decode code 502 = .ok (.iaload, 1) := by decide +kernel
theorem d_Law_law_503 : decode code 503 = .ok (.invokevirtual 89, 3) := by decide +kernel
theorem kw_4_236 : (Jvm.Cond.methodLink "CertificateDeskLaw" (89 : Nat) ({ cls := "CertificateDesk", name := "serial", desc := "(I)I" } : Jvm.MethodName)) ∈ cd_tbl := tb_4 (List.mem_of_getElem? (i := 236) (by decide +kernel)) (by decide)
theorem kw_4_239 : (Jvm.Cond.code ({ cls := "CertificateDesk", name := "serial", desc := "(I)I" } : Jvm.MethodName) prog_1_method_17_code (3 : Nat) (Option.some Jvm.ClassFile.FieldType.int)) ∈ cd_tbl := tb_4 (List.mem_of_getElem? (i := 239) (by decide +kernel)) (by decide)
theorem kw_4_237 : (Jvm.Cond.instanceMethod ({ cls := "CertificateDesk", name := "serial", desc := "(I)I" } : Jvm.MethodName)) ∈ cd_tbl := tb_4 (List.mem_of_getElem? (i := 237) (by decide +kernel)) (by decide)
theorem kw_4_238 : (Jvm.Cond.selects "CertificateDesk" ({ cls := "CertificateDesk", name := "serial", desc := "(I)I" } : Jvm.MethodName) ({ cls := "CertificateDesk", name := "serial", desc := "(I)I" } : Jvm.MethodName)) ∈ cd_tbl := tb_4 (List.mem_of_getElem? (i := 238) (by decide +kernel)) (by decide)
theorem ca_Law_law_89 {X : cd_E} : cd_CV X m_Law_law m_Desk_serial 89 1 0 := ⟨⟨by decide, kw_4_239, kw_1_1, ⟨by decide, by decide, by decide +kernel⟩, by decide, by decide⟩, ⟨_, rfl, rfl⟩, kw_4_237, kw_4_238, (Or.inl kw_4_236)⟩
theorem d_Law_law_506 : decode code 506 = .ok (.aload_n 2, 1) := by decide +kernel
theorem d_Law_law_507 : decode code 507 = .ok (.aload_n 0, 1) := by decide +kernel
theorem d_Law_law_508 : decode code 508 = .ok (.iload_n 3, 1) := by decide +kernel
theorem d_Law_law_509 : decode code 509 = .ok (.iconst 1, 1) := by decide +kernel
theorem d_Law_law_510 : decode code 510 = .ok (.iadd, 1) := by decide +kernel
theorem d_Law_law_511 : decode code 511 = .ok (.iaload, 1) := by decide +kernel
theorem d_Law_law_512 : decode code 512 = .ok (.invokevirtual 92, 3) := by decide +kernel
theorem kw_6_171 : (Jvm.Cond.methodLink "CertificateDeskLaw" (92 : Nat) ({ cls := "CertificateDeskModel", name := "serial", desc := "(I)I" } : Jvm.MethodName)) ∈ cd_tbl := tb_6 (List.mem_of_getElem? (i := 171) (by decide +kernel)) (by decide)
theorem kw_6_174 : (Jvm.Cond.code ({ cls := "CertificateDeskModel", name := "serial", desc := "(I)I" } : Jvm.MethodName) prog_14_method_60_code (2 : Nat) (Option.some Jvm.ClassFile.FieldType.int)) ∈ cd_tbl := tb_6 (List.mem_of_getElem? (i := 174) (by decide +kernel)) (by decide)
theorem kw_6_172 : (Jvm.Cond.instanceMethod ({ cls := "CertificateDeskModel", name := "serial", desc := "(I)I" } : Jvm.MethodName)) ∈ cd_tbl := tb_6 (List.mem_of_getElem? (i := 172) (by decide +kernel)) (by decide)
theorem kw_6_173 : (Jvm.Cond.selects "CertificateDeskModel" ({ cls := "CertificateDeskModel", name := "serial", desc := "(I)I" } : Jvm.MethodName) ({ cls := "CertificateDeskModel", name := "serial", desc := "(I)I" } : Jvm.MethodName)) ∈ cd_tbl := tb_6 (List.mem_of_getElem? (i := 173) (by decide +kernel)) (by decide)
theorem ca_Law_law_92 {X : cd_E} : cd_CV X m_Law_law m_Mod_serial 92 1 11 := ⟨⟨by decide, kw_6_174, kw_1_10, ⟨by decide, by decide, by decide +kernel⟩, by decide, by decide⟩, ⟨_, rfl, rfl⟩, kw_6_172, kw_6_173, (Or.inl kw_6_171)⟩
theorem d_Law_law_515 : decode code 515 = .ok (.if_icmp .eq 74, 3) := by decide +kernel
theorem d_Law_law_518 : decode code 518 = .ok (.iconst 0, 1) := by decide +kernel
theorem d_Law_law_519 : decode code 519 = .ok (.ireturn, 1) := by decide +kernel
theorem g_Law_law_497 {X : cd_E} {kc ks : Nat} {h : cd_H} {Q : Option Value → cd_H → Prop} {v3 : Int32} (H : (vp_in (v3 + 1) (cd_sL X)) ∧ ((cd_k h 64 = some (.inl 0)) ∧ (cd_W X m_Desk_serial 0 0 0 [some (.ref 64), some (.int (cd_sx X (v3 + 1).toNatClampNeg)), none] [] h (fun r3 h4 => ∃ x5 : Int32, r3 = some (.int x5) ∧ ((cd_k h4 82 = some (.inl 11)) ∧ (cd_W X m_Mod_serial 0 0 0 [some (.ref 82), some (.int (cd_sx X (v3 + 1).toNatClampNeg))] [] h4 (fun r7 h8 => ∃ x9 : Int32, r7 = some (.int x9) ∧ ((((x5 = x9) → (cd_W X m_Law_law kc ks 28 [some (.ref 35), some (.ref 64), some (.ref 82), some (.int (v3 + 5))] [] h8 Q)) ∧ ((¬ x5 = x9) → (Q (some (.int 0)) h8))))))))))) : cd_W X m_Law_law kc ks 497 [some (.ref 35), some (.ref 64), some (.ref 82), some (.int v3)] [] h Q := by
  refine cd_aload_n (i := 1) (v := .ref 64) d_Law_law_497 rfl rfl (cd_isr_ref _) ?_
  refine cd_aload_n (i := 0) (v := .ref 35) d_Law_law_498 rfl rfl (cd_isr_ref _) ?_
  refine cd_iload_n (i := 3) d_Law_law_499 rfl rfl ?_
  refine cd_iconst (v := 1) d_Law_law_500 (by decide) ?_
  refine cd_iadd d_Law_law_501 ?_
  obtain ⟨c1, H⟩ := H
  refine cd_sld (j := (v3 + 1)) d_Law_law_502 c1 ?_
  obtain ⟨c2, H⟩ := H
  refine cd_callV (kc := kc) (ks := ks) (kc' := 0) (ks' := 0) (As := [.int (cd_sx X (v3 + 1).toNatClampNeg)]) (S := []) d_Law_law_503 ca_Law_law_89 c2 rfl (Nat.le_of_ble_eq_true rfl) (Nat.le_of_ble_eq_true rfl) ?_
  refine cd_W.mono (fun r3 h4 H => ?_) H
  obtain ⟨x5, rfl, H⟩ := H
  show cd_W X m_Law_law kc ks 506 [some (.ref 35), some (.ref 64), some (.ref 82), some (.int v3)] [.int x5] h4 Q
  refine cd_aload_n (i := 2) (v := .ref 82) d_Law_law_506 rfl rfl (cd_isr_ref _) ?_
  show cd_W X m_Law_law kc ks 507 [some (.ref 35), some (.ref 64), some (.ref 82), some (.int v3)] [.ref 82, .int x5] h4 Q
  refine cd_aload_n (i := 0) (v := .ref 35) d_Law_law_507 rfl rfl (cd_isr_ref _) ?_
  refine cd_iload_n (i := 3) d_Law_law_508 rfl rfl ?_
  refine cd_iconst (v := 1) d_Law_law_509 (by decide) ?_
  refine cd_iadd d_Law_law_510 ?_
  refine cd_sld (j := (v3 + 1)) d_Law_law_511 c1 ?_
  obtain ⟨c6, H⟩ := H
  refine cd_callV (kc := kc) (ks := ks) (kc' := 0) (ks' := 0) (As := [.int (cd_sx X (v3 + 1).toNatClampNeg)]) (S := [.int x5]) d_Law_law_512 ca_Law_law_92 c6 rfl (Nat.le_of_ble_eq_true rfl) (Nat.le_of_ble_eq_true rfl) ?_
  refine cd_W.mono (fun r7 h8 H => ?_) H
  obtain ⟨x9, rfl, H⟩ := H
  show cd_W X m_Law_law kc ks 515 [some (.ref 35), some (.ref 64), some (.ref 82), some (.int v3)] [.int x9, .int x5] h8 Q
  refine cd_icmp_eq (tgt := 589) d_Law_law_515 (by decide) (fun t10 => ?_) (fun t10 => ?_)
  · replace H := H.1 t10
    refine cd_iinc (i := 3) (v := (v3 + 5)) d_Law_law_589 rfl (cd_inc5 _) (by decide) ?_
    show cd_W X m_Law_law kc ks 592 [some (.ref 35), some (.ref 64), some (.ref 82), some (.int (v3 + 5))] [] h8 Q
    refine cd_goto (tgt := 28) d_Law_law_592 (by decide) ?_
    exact H
  · replace H := H.2 t10
    refine cd_iconst (v := 0) d_Law_law_518 (by decide) ?_
    show cd_W X m_Law_law kc ks 519 [some (.ref 35), some (.ref 64), some (.ref 82), some (.int v3)] [.int 0] h8 Q
    exact cd_iret d_Law_law_519 rfl rfl H

theorem d_Law_law_520 : decode code 520 = .ok (.aload_n 1, 1) := by decide +kernel
theorem d_Law_law_521 : decode code 521 = .ok (.aload_n 0, 1) := by decide +kernel
theorem d_Law_law_522 : decode code 522 = .ok (.iload_n 3, 1) := by decide +kernel
theorem d_Law_law_523 : decode code 523 = .ok (.iconst 1, 1) := by decide +kernel
theorem d_Law_law_524 : decode code 524 = .ok (.iadd, 1) := by decide +kernel
theorem d_Law_law_525 : decode code 525 = .ok (.iaload, 1) := by decide +kernel
theorem d_Law_law_526 : decode code 526 = .ok (.aload_n 0, 1) := by decide +kernel
theorem d_Law_law_527 : decode code 527 = .ok (.iload_n 3, 1) := by decide +kernel
theorem d_Law_law_528 : decode code 528 = .ok (.iconst 2, 1) := by decide +kernel
theorem d_Law_law_529 : decode code 529 = .ok (.iadd, 1) := by decide +kernel
theorem d_Law_law_530 : decode code 530 = .ok (.iaload, 1) := by decide +kernel
theorem d_Law_law_531 : decode code 531 = .ok (.invokevirtual 93, 3) := by decide +kernel
theorem kw_5_0 : (Jvm.Cond.methodLink "CertificateDeskLaw" (93 : Nat) ({ cls := "CertificateDesk", name := "octet", desc := "(II)I" } : Jvm.MethodName)) ∈ cd_tbl := tb_5 (List.mem_of_getElem? (i := 0) (by decide +kernel)) (by decide)
theorem kw_5_3 : (Jvm.Cond.code ({ cls := "CertificateDesk", name := "octet", desc := "(II)I" } : Jvm.MethodName) prog_1_method_18_code (4 : Nat) (Option.some Jvm.ClassFile.FieldType.int)) ∈ cd_tbl := tb_5 (List.mem_of_getElem? (i := 3) (by decide +kernel)) (by decide)
theorem kw_5_1 : (Jvm.Cond.instanceMethod ({ cls := "CertificateDesk", name := "octet", desc := "(II)I" } : Jvm.MethodName)) ∈ cd_tbl := tb_5 (List.mem_of_getElem? (i := 1) (by decide +kernel)) (by decide)
theorem kw_5_2 : (Jvm.Cond.selects "CertificateDesk" ({ cls := "CertificateDesk", name := "octet", desc := "(II)I" } : Jvm.MethodName) ({ cls := "CertificateDesk", name := "octet", desc := "(II)I" } : Jvm.MethodName)) ∈ cd_tbl := tb_5 (List.mem_of_getElem? (i := 2) (by decide +kernel)) (by decide)
theorem ca_Law_law_93 {X : cd_E} : cd_CV X m_Law_law m_Desk_octet 93 2 0 := ⟨⟨by decide, kw_5_3, kw_1_1, ⟨by decide, by decide, by decide +kernel⟩, by decide, by decide⟩, ⟨_, rfl, rfl⟩, kw_5_1, kw_5_2, (Or.inl kw_5_0)⟩
theorem d_Law_law_534 : decode code 534 = .ok (.aload_n 2, 1) := by decide +kernel
theorem d_Law_law_535 : decode code 535 = .ok (.aload_n 0, 1) := by decide +kernel
theorem d_Law_law_536 : decode code 536 = .ok (.iload_n 3, 1) := by decide +kernel
theorem d_Law_law_537 : decode code 537 = .ok (.iconst 1, 1) := by decide +kernel
theorem d_Law_law_538 : decode code 538 = .ok (.iadd, 1) := by decide +kernel
theorem d_Law_law_539 : decode code 539 = .ok (.iaload, 1) := by decide +kernel
theorem d_Law_law_540 : decode code 540 = .ok (.aload_n 0, 1) := by decide +kernel
theorem d_Law_law_541 : decode code 541 = .ok (.iload_n 3, 1) := by decide +kernel
theorem d_Law_law_542 : decode code 542 = .ok (.iconst 2, 1) := by decide +kernel
theorem d_Law_law_543 : decode code 543 = .ok (.iadd, 1) := by decide +kernel
theorem d_Law_law_544 : decode code 544 = .ok (.iaload, 1) := by decide +kernel
theorem d_Law_law_545 : decode code 545 = .ok (.invokevirtual 96, 3) := by decide +kernel
theorem kw_6_155 : (Jvm.Cond.methodLink "CertificateDeskLaw" (96 : Nat) ({ cls := "CertificateDeskModel", name := "octet", desc := "(II)I" } : Jvm.MethodName)) ∈ cd_tbl := tb_6 (List.mem_of_getElem? (i := 155) (by decide +kernel)) (by decide)
theorem kw_6_158 : (Jvm.Cond.code ({ cls := "CertificateDeskModel", name := "octet", desc := "(II)I" } : Jvm.MethodName) prog_14_method_56_code (4 : Nat) (Option.some Jvm.ClassFile.FieldType.int)) ∈ cd_tbl := tb_6 (List.mem_of_getElem? (i := 158) (by decide +kernel)) (by decide)
theorem kw_6_156 : (Jvm.Cond.instanceMethod ({ cls := "CertificateDeskModel", name := "octet", desc := "(II)I" } : Jvm.MethodName)) ∈ cd_tbl := tb_6 (List.mem_of_getElem? (i := 156) (by decide +kernel)) (by decide)
theorem kw_6_157 : (Jvm.Cond.selects "CertificateDeskModel" ({ cls := "CertificateDeskModel", name := "octet", desc := "(II)I" } : Jvm.MethodName) ({ cls := "CertificateDeskModel", name := "octet", desc := "(II)I" } : Jvm.MethodName)) ∈ cd_tbl := tb_6 (List.mem_of_getElem? (i := 157) (by decide +kernel)) (by decide)
theorem ca_Law_law_96 {X : cd_E} : cd_CV X m_Law_law m_Mod_octet 96 2 11 := ⟨⟨by decide, kw_6_158, kw_1_10, ⟨by decide, by decide, by decide +kernel⟩, by decide, by decide⟩, ⟨_, rfl, rfl⟩, kw_6_156, kw_6_157, (Or.inl kw_6_155)⟩
theorem d_Law_law_548 : decode code 548 = .ok (.if_icmp .eq 41, 3) := by decide +kernel
theorem d_Law_law_551 : decode code 551 = .ok (.iconst 0, 1) := by decide +kernel
theorem d_Law_law_552 : decode code 552 = .ok (.ireturn, 1) := by decide +kernel
theorem g_Law_law_520 {X : cd_E} {kc ks : Nat} {h : cd_H} {Q : Option Value → cd_H → Prop} {v3 : Int32} (H : (vp_in (v3 + 1) (cd_sL X)) ∧ ((vp_in (v3 + 2) (cd_sL X)) ∧ ((cd_k h 64 = some (.inl 0)) ∧ (cd_W X m_Desk_octet 0 0 0 [some (.ref 64), some (.int (cd_sx X (v3 + 1).toNatClampNeg)), some (.int (cd_sx X (v3 + 2).toNatClampNeg)), none] [] h (fun r4 h5 => ∃ x6 : Int32, r4 = some (.int x6) ∧ ((cd_k h5 82 = some (.inl 11)) ∧ (cd_W X m_Mod_octet 0 0 0 [some (.ref 82), some (.int (cd_sx X (v3 + 1).toNatClampNeg)), some (.int (cd_sx X (v3 + 2).toNatClampNeg)), none] [] h5 (fun r8 h9 => ∃ x10 : Int32, r8 = some (.int x10) ∧ ((((x6 = x10) → (cd_W X m_Law_law kc ks 28 [some (.ref 35), some (.ref 64), some (.ref 82), some (.int (v3 + 5))] [] h9 Q)) ∧ ((¬ x6 = x10) → (Q (some (.int 0)) h9)))))))))))) : cd_W X m_Law_law kc ks 520 [some (.ref 35), some (.ref 64), some (.ref 82), some (.int v3)] [] h Q := by
  refine cd_aload_n (i := 1) (v := .ref 64) d_Law_law_520 rfl rfl (cd_isr_ref _) ?_
  refine cd_aload_n (i := 0) (v := .ref 35) d_Law_law_521 rfl rfl (cd_isr_ref _) ?_
  show cd_W X m_Law_law kc ks 522 [some (.ref 35), some (.ref 64), some (.ref 82), some (.int v3)] [.ref 35, .ref 64] h Q
  refine cd_iload_n (i := 3) d_Law_law_522 rfl rfl ?_
  refine cd_iconst (v := 1) d_Law_law_523 (by decide) ?_
  refine cd_iadd d_Law_law_524 ?_
  obtain ⟨c1, H⟩ := H
  refine cd_sld (j := (v3 + 1)) d_Law_law_525 c1 ?_
  refine cd_aload_n (i := 0) (v := .ref 35) d_Law_law_526 rfl rfl (cd_isr_ref _) ?_
  refine cd_iload_n (i := 3) d_Law_law_527 rfl rfl ?_
  refine cd_iconst (v := 2) d_Law_law_528 (by decide) ?_
  refine cd_iadd d_Law_law_529 ?_
  show cd_W X m_Law_law kc ks 530 [some (.ref 35), some (.ref 64), some (.ref 82), some (.int v3)] [.int (v3 + 2), .ref 35, .int (cd_sx X (v3 + 1).toNatClampNeg), .ref 64] h Q
  obtain ⟨c2, H⟩ := H
  refine cd_sld (j := (v3 + 2)) d_Law_law_530 c2 ?_
  obtain ⟨c3, H⟩ := H
  refine cd_callV (kc := kc) (ks := ks) (kc' := 0) (ks' := 0) (As := [.int (cd_sx X (v3 + 1).toNatClampNeg), .int (cd_sx X (v3 + 2).toNatClampNeg)]) (S := []) d_Law_law_531 ca_Law_law_93 c3 rfl (Nat.le_of_ble_eq_true rfl) (Nat.le_of_ble_eq_true rfl) ?_
  refine cd_W.mono (fun r4 h5 H => ?_) H
  obtain ⟨x6, rfl, H⟩ := H
  show cd_W X m_Law_law kc ks 534 [some (.ref 35), some (.ref 64), some (.ref 82), some (.int v3)] [.int x6] h5 Q
  refine cd_aload_n (i := 2) (v := .ref 82) d_Law_law_534 rfl rfl (cd_isr_ref _) ?_
  refine cd_aload_n (i := 0) (v := .ref 35) d_Law_law_535 rfl rfl (cd_isr_ref _) ?_
  refine cd_iload_n (i := 3) d_Law_law_536 rfl rfl ?_
  refine cd_iconst (v := 1) d_Law_law_537 (by decide) ?_
  refine cd_iadd d_Law_law_538 ?_
  refine cd_sld (j := (v3 + 1)) d_Law_law_539 c1 ?_
  show cd_W X m_Law_law kc ks 540 [some (.ref 35), some (.ref 64), some (.ref 82), some (.int v3)] [.int (cd_sx X (v3 + 1).toNatClampNeg), .ref 82, .int x6] h5 Q
  refine cd_aload_n (i := 0) (v := .ref 35) d_Law_law_540 rfl rfl (cd_isr_ref _) ?_
  refine cd_iload_n (i := 3) d_Law_law_541 rfl rfl ?_
  refine cd_iconst (v := 2) d_Law_law_542 (by decide) ?_
  refine cd_iadd d_Law_law_543 ?_
  refine cd_sld (j := (v3 + 2)) d_Law_law_544 c2 ?_
  obtain ⟨c7, H⟩ := H
  refine cd_callV (kc := kc) (ks := ks) (kc' := 0) (ks' := 0) (As := [.int (cd_sx X (v3 + 1).toNatClampNeg), .int (cd_sx X (v3 + 2).toNatClampNeg)]) (S := [.int x6]) d_Law_law_545 ca_Law_law_96 c7 rfl (Nat.le_of_ble_eq_true rfl) (Nat.le_of_ble_eq_true rfl) ?_
  refine cd_W.mono (fun r8 h9 H => ?_) H
  obtain ⟨x10, rfl, H⟩ := H
  show cd_W X m_Law_law kc ks 548 [some (.ref 35), some (.ref 64), some (.ref 82), some (.int v3)] [.int x10, .int x6] h9 Q
  refine cd_icmp_eq (tgt := 589) d_Law_law_548 (by decide) (fun t11 => ?_) (fun t11 => ?_)
  · replace H := H.1 t11
    refine cd_iinc (i := 3) (v := (v3 + 5)) d_Law_law_589 rfl (cd_inc5 _) (by decide) ?_
    show cd_W X m_Law_law kc ks 592 [some (.ref 35), some (.ref 64), some (.ref 82), some (.int (v3 + 5))] [] h9 Q
    refine cd_goto (tgt := 28) d_Law_law_592 (by decide) ?_
    exact H
  · replace H := H.2 t11
    refine cd_iconst (v := 0) d_Law_law_551 (by decide) ?_
    show cd_W X m_Law_law kc ks 552 [some (.ref 35), some (.ref 64), some (.ref 82), some (.int v3)] [.int 0] h9 Q
    exact cd_iret d_Law_law_552 rfl rfl H

theorem d_Law_law_553 : decode code 553 = .ok (.aload_n 1, 1) := by decide +kernel
theorem d_Law_law_554 : decode code 554 = .ok (.aload_n 0, 1) := by decide +kernel
theorem d_Law_law_555 : decode code 555 = .ok (.iload_n 3, 1) := by decide +kernel
theorem d_Law_law_556 : decode code 556 = .ok (.iconst 1, 1) := by decide +kernel
theorem d_Law_law_557 : decode code 557 = .ok (.iadd, 1) := by decide +kernel
theorem d_Law_law_558 : decode code 558 = .ok (.iaload, 1) := by decide +kernel
theorem d_Law_law_559 : decode code 559 = .ok (.invokevirtual 97, 3) := by decide +kernel
theorem kw_5_5 : (Jvm.Cond.methodLink "CertificateDeskLaw" (97 : Nat) ({ cls := "CertificateDesk", name := "standing", desc := "(I)I" } : Jvm.MethodName)) ∈ cd_tbl := tb_5 (List.mem_of_getElem? (i := 5) (by decide +kernel)) (by decide)
theorem kw_5_8 : (Jvm.Cond.code ({ cls := "CertificateDesk", name := "standing", desc := "(I)I" } : Jvm.MethodName) prog_1_method_19_code (3 : Nat) (Option.some Jvm.ClassFile.FieldType.int)) ∈ cd_tbl := tb_5 (List.mem_of_getElem? (i := 8) (by decide +kernel)) (by decide)
theorem kw_5_6 : (Jvm.Cond.instanceMethod ({ cls := "CertificateDesk", name := "standing", desc := "(I)I" } : Jvm.MethodName)) ∈ cd_tbl := tb_5 (List.mem_of_getElem? (i := 6) (by decide +kernel)) (by decide)
theorem kw_5_7 : (Jvm.Cond.selects "CertificateDesk" ({ cls := "CertificateDesk", name := "standing", desc := "(I)I" } : Jvm.MethodName) ({ cls := "CertificateDesk", name := "standing", desc := "(I)I" } : Jvm.MethodName)) ∈ cd_tbl := tb_5 (List.mem_of_getElem? (i := 7) (by decide +kernel)) (by decide)
theorem ca_Law_law_97 {X : cd_E} : cd_CV X m_Law_law m_Desk_standing 97 1 0 := ⟨⟨by decide, kw_5_8, kw_1_1, ⟨by decide, by decide, by decide +kernel⟩, by decide, by decide⟩, ⟨_, rfl, rfl⟩, kw_5_6, kw_5_7, (Or.inl kw_5_5)⟩
theorem d_Law_law_562 : decode code 562 = .ok (.aload_n 2, 1) := by decide +kernel
theorem d_Law_law_563 : decode code 563 = .ok (.aload_n 0, 1) := by decide +kernel
theorem d_Law_law_564 : decode code 564 = .ok (.iload_n 3, 1) := by decide +kernel
theorem d_Law_law_565 : decode code 565 = .ok (.iconst 1, 1) := by decide +kernel
theorem d_Law_law_566 : decode code 566 = .ok (.iadd, 1) := by decide +kernel
theorem d_Law_law_567 : decode code 567 = .ok (.iaload, 1) := by decide +kernel
theorem d_Law_law_568 : decode code 568 = .ok (.invokevirtual 100, 3) := by decide +kernel
theorem kw_6_175 : (Jvm.Cond.methodLink "CertificateDeskLaw" (100 : Nat) ({ cls := "CertificateDeskModel", name := "standing", desc := "(I)I" } : Jvm.MethodName)) ∈ cd_tbl := tb_6 (List.mem_of_getElem? (i := 175) (by decide +kernel)) (by decide)
theorem kw_6_178 : (Jvm.Cond.code ({ cls := "CertificateDeskModel", name := "standing", desc := "(I)I" } : Jvm.MethodName) prog_14_method_61_code (2 : Nat) (Option.some Jvm.ClassFile.FieldType.int)) ∈ cd_tbl := tb_6 (List.mem_of_getElem? (i := 178) (by decide +kernel)) (by decide)
theorem kw_6_176 : (Jvm.Cond.instanceMethod ({ cls := "CertificateDeskModel", name := "standing", desc := "(I)I" } : Jvm.MethodName)) ∈ cd_tbl := tb_6 (List.mem_of_getElem? (i := 176) (by decide +kernel)) (by decide)
theorem kw_6_177 : (Jvm.Cond.selects "CertificateDeskModel" ({ cls := "CertificateDeskModel", name := "standing", desc := "(I)I" } : Jvm.MethodName) ({ cls := "CertificateDeskModel", name := "standing", desc := "(I)I" } : Jvm.MethodName)) ∈ cd_tbl := tb_6 (List.mem_of_getElem? (i := 177) (by decide +kernel)) (by decide)
theorem ca_Law_law_100 {X : cd_E} : cd_CV X m_Law_law m_Mod_standing 100 1 11 := ⟨⟨by decide, kw_6_178, kw_1_10, ⟨by decide, by decide, by decide +kernel⟩, by decide, by decide⟩, ⟨_, rfl, rfl⟩, kw_6_176, kw_6_177, (Or.inl kw_6_175)⟩
theorem d_Law_law_571 : decode code 571 = .ok (.if_icmp .eq 18, 3) := by decide +kernel
theorem d_Law_law_574 : decode code 574 = .ok (.iconst 0, 1) := by decide +kernel
theorem d_Law_law_575 : decode code 575 = .ok (.ireturn, 1) := by decide +kernel
theorem g_Law_law_553 {X : cd_E} {kc ks : Nat} {h : cd_H} {Q : Option Value → cd_H → Prop} {v3 : Int32} (H : (vp_in (v3 + 1) (cd_sL X)) ∧ ((cd_k h 64 = some (.inl 0)) ∧ (cd_W X m_Desk_standing 0 0 0 [some (.ref 64), some (.int (cd_sx X (v3 + 1).toNatClampNeg)), none] [] h (fun r3 h4 => ∃ x5 : Int32, r3 = some (.int x5) ∧ ((cd_k h4 82 = some (.inl 11)) ∧ (cd_W X m_Mod_standing 0 0 0 [some (.ref 82), some (.int (cd_sx X (v3 + 1).toNatClampNeg))] [] h4 (fun r7 h8 => ∃ x9 : Int32, r7 = some (.int x9) ∧ ((((x5 = x9) → (cd_W X m_Law_law kc ks 28 [some (.ref 35), some (.ref 64), some (.ref 82), some (.int (v3 + 5))] [] h8 Q)) ∧ ((¬ x5 = x9) → (Q (some (.int 0)) h8))))))))))) : cd_W X m_Law_law kc ks 553 [some (.ref 35), some (.ref 64), some (.ref 82), some (.int v3)] [] h Q := by
  refine cd_aload_n (i := 1) (v := .ref 64) d_Law_law_553 rfl rfl (cd_isr_ref _) ?_
  refine cd_aload_n (i := 0) (v := .ref 35) d_Law_law_554 rfl rfl (cd_isr_ref _) ?_
  refine cd_iload_n (i := 3) d_Law_law_555 rfl rfl ?_
  refine cd_iconst (v := 1) d_Law_law_556 (by decide) ?_
  refine cd_iadd d_Law_law_557 ?_
  obtain ⟨c1, H⟩ := H
  refine cd_sld (j := (v3 + 1)) d_Law_law_558 c1 ?_
  obtain ⟨c2, H⟩ := H
  refine cd_callV (kc := kc) (ks := ks) (kc' := 0) (ks' := 0) (As := [.int (cd_sx X (v3 + 1).toNatClampNeg)]) (S := []) d_Law_law_559 ca_Law_law_97 c2 rfl (Nat.le_of_ble_eq_true rfl) (Nat.le_of_ble_eq_true rfl) ?_
  refine cd_W.mono (fun r3 h4 H => ?_) H
  obtain ⟨x5, rfl, H⟩ := H
  show cd_W X m_Law_law kc ks 562 [some (.ref 35), some (.ref 64), some (.ref 82), some (.int v3)] [.int x5] h4 Q
  refine cd_aload_n (i := 2) (v := .ref 82) d_Law_law_562 rfl rfl (cd_isr_ref _) ?_
  show cd_W X m_Law_law kc ks 563 [some (.ref 35), some (.ref 64), some (.ref 82), some (.int v3)] [.ref 82, .int x5] h4 Q
  refine cd_aload_n (i := 0) (v := .ref 35) d_Law_law_563 rfl rfl (cd_isr_ref _) ?_
  refine cd_iload_n (i := 3) d_Law_law_564 rfl rfl ?_
  refine cd_iconst (v := 1) d_Law_law_565 (by decide) ?_
  refine cd_iadd d_Law_law_566 ?_
  refine cd_sld (j := (v3 + 1)) d_Law_law_567 c1 ?_
  obtain ⟨c6, H⟩ := H
  refine cd_callV (kc := kc) (ks := ks) (kc' := 0) (ks' := 0) (As := [.int (cd_sx X (v3 + 1).toNatClampNeg)]) (S := [.int x5]) d_Law_law_568 ca_Law_law_100 c6 rfl (Nat.le_of_ble_eq_true rfl) (Nat.le_of_ble_eq_true rfl) ?_
  refine cd_W.mono (fun r7 h8 H => ?_) H
  obtain ⟨x9, rfl, H⟩ := H
  show cd_W X m_Law_law kc ks 571 [some (.ref 35), some (.ref 64), some (.ref 82), some (.int v3)] [.int x9, .int x5] h8 Q
  refine cd_icmp_eq (tgt := 589) d_Law_law_571 (by decide) (fun t10 => ?_) (fun t10 => ?_)
  · replace H := H.1 t10
    refine cd_iinc (i := 3) (v := (v3 + 5)) d_Law_law_589 rfl (cd_inc5 _) (by decide) ?_
    show cd_W X m_Law_law kc ks 592 [some (.ref 35), some (.ref 64), some (.ref 82), some (.int (v3 + 5))] [] h8 Q
    refine cd_goto (tgt := 28) d_Law_law_592 (by decide) ?_
    exact H
  · replace H := H.2 t10
    refine cd_iconst (v := 0) d_Law_law_574 (by decide) ?_
    show cd_W X m_Law_law kc ks 575 [some (.ref 35), some (.ref 64), some (.ref 82), some (.int v3)] [.int 0] h8 Q
    exact cd_iret d_Law_law_575 rfl rfl H

theorem d_Law_law_576 : decode code 576 = .ok (.aload_n 1, 1) := by decide +kernel
theorem d_Law_law_577 : decode code 577 = .ok (.invokevirtual 101, 3) := by decide +kernel
theorem kw_5_9 : (Jvm.Cond.methodLink "CertificateDeskLaw" (101 : Nat) ({ cls := "CertificateDesk", name := "listing", desc := "()I" } : Jvm.MethodName)) ∈ cd_tbl := tb_5 (List.mem_of_getElem? (i := 9) (by decide +kernel)) (by decide)
theorem kw_5_12 : (Jvm.Cond.code ({ cls := "CertificateDesk", name := "listing", desc := "()I" } : Jvm.MethodName) prog_1_method_20_code (4 : Nat) (Option.some Jvm.ClassFile.FieldType.int)) ∈ cd_tbl := tb_5 (List.mem_of_getElem? (i := 12) (by decide +kernel)) (by decide)
theorem kw_5_10 : (Jvm.Cond.instanceMethod ({ cls := "CertificateDesk", name := "listing", desc := "()I" } : Jvm.MethodName)) ∈ cd_tbl := tb_5 (List.mem_of_getElem? (i := 10) (by decide +kernel)) (by decide)
theorem kw_5_11 : (Jvm.Cond.selects "CertificateDesk" ({ cls := "CertificateDesk", name := "listing", desc := "()I" } : Jvm.MethodName) ({ cls := "CertificateDesk", name := "listing", desc := "()I" } : Jvm.MethodName)) ∈ cd_tbl := tb_5 (List.mem_of_getElem? (i := 11) (by decide +kernel)) (by decide)
theorem ca_Law_law_101 {X : cd_E} : cd_CV X m_Law_law m_Desk_listing 101 0 0 := ⟨⟨by decide, kw_5_12, kw_1_1, ⟨by decide, by decide, by decide +kernel⟩, by decide, by decide⟩, ⟨_, rfl, rfl⟩, kw_5_10, kw_5_11, (Or.inl kw_5_9)⟩
theorem d_Law_law_580 : decode code 580 = .ok (.aload_n 2, 1) := by decide +kernel
theorem d_Law_law_581 : decode code 581 = .ok (.invokevirtual 104, 3) := by decide +kernel
theorem kw_6_179 : (Jvm.Cond.methodLink "CertificateDeskLaw" (104 : Nat) ({ cls := "CertificateDeskModel", name := "listing", desc := "()I" } : Jvm.MethodName)) ∈ cd_tbl := tb_6 (List.mem_of_getElem? (i := 179) (by decide +kernel)) (by decide)
theorem kw_6_182 : (Jvm.Cond.code ({ cls := "CertificateDeskModel", name := "listing", desc := "()I" } : Jvm.MethodName) prog_14_method_62_code (2 : Nat) (Option.some Jvm.ClassFile.FieldType.int)) ∈ cd_tbl := tb_6 (List.mem_of_getElem? (i := 182) (by decide +kernel)) (by decide)
theorem kw_6_180 : (Jvm.Cond.instanceMethod ({ cls := "CertificateDeskModel", name := "listing", desc := "()I" } : Jvm.MethodName)) ∈ cd_tbl := tb_6 (List.mem_of_getElem? (i := 180) (by decide +kernel)) (by decide)
theorem kw_6_181 : (Jvm.Cond.selects "CertificateDeskModel" ({ cls := "CertificateDeskModel", name := "listing", desc := "()I" } : Jvm.MethodName) ({ cls := "CertificateDeskModel", name := "listing", desc := "()I" } : Jvm.MethodName)) ∈ cd_tbl := tb_6 (List.mem_of_getElem? (i := 181) (by decide +kernel)) (by decide)
theorem ca_Law_law_104 {X : cd_E} : cd_CV X m_Law_law m_Mod_listing 104 0 11 := ⟨⟨by decide, kw_6_182, kw_1_10, ⟨by decide, by decide, by decide +kernel⟩, by decide, by decide⟩, ⟨_, rfl, rfl⟩, kw_6_180, kw_6_181, (Or.inl kw_6_179)⟩
theorem d_Law_law_584 : decode code 584 = .ok (.if_icmp .eq 5, 3) := by decide +kernel
theorem d_Law_law_587 : decode code 587 = .ok (.iconst 0, 1) := by decide +kernel
theorem d_Law_law_588 : decode code 588 = .ok (.ireturn, 1) := by decide +kernel
theorem g_Law_law_576 {X : cd_E} {kc ks : Nat} {h : cd_H} {Q : Option Value → cd_H → Prop} {v3 : Int32} (H : (cd_k h 64 = some (.inl 0)) ∧ (cd_W X m_Desk_listing 0 0 0 [some (.ref 64), none, none, none] [] h (fun r2 h3 => ∃ x4 : Int32, r2 = some (.int x4) ∧ ((cd_k h3 82 = some (.inl 11)) ∧ (cd_W X m_Mod_listing 0 0 0 [some (.ref 82), none] [] h3 (fun r6 h7 => ∃ x8 : Int32, r6 = some (.int x8) ∧ ((((x4 = x8) → (cd_W X m_Law_law kc ks 28 [some (.ref 35), some (.ref 64), some (.ref 82), some (.int (v3 + 5))] [] h7 Q)) ∧ ((¬ x4 = x8) → (Q (some (.int 0)) h7)))))))))) : cd_W X m_Law_law kc ks 576 [some (.ref 35), some (.ref 64), some (.ref 82), some (.int v3)] [] h Q := by
  refine cd_aload_n (i := 1) (v := .ref 64) d_Law_law_576 rfl rfl (cd_isr_ref _) ?_
  obtain ⟨c1, H⟩ := H
  refine cd_callV (kc := kc) (ks := ks) (kc' := 0) (ks' := 0) (As := []) (S := []) d_Law_law_577 ca_Law_law_101 c1 rfl (Nat.le_of_ble_eq_true rfl) (Nat.le_of_ble_eq_true rfl) ?_
  refine cd_W.mono (fun r2 h3 H => ?_) H
  obtain ⟨x4, rfl, H⟩ := H
  show cd_W X m_Law_law kc ks 580 [some (.ref 35), some (.ref 64), some (.ref 82), some (.int v3)] [.int x4] h3 Q
  refine cd_aload_n (i := 2) (v := .ref 82) d_Law_law_580 rfl rfl (cd_isr_ref _) ?_
  obtain ⟨c5, H⟩ := H
  refine cd_callV (kc := kc) (ks := ks) (kc' := 0) (ks' := 0) (As := []) (S := [.int x4]) d_Law_law_581 ca_Law_law_104 c5 rfl (Nat.le_of_ble_eq_true rfl) (Nat.le_of_ble_eq_true rfl) ?_
  refine cd_W.mono (fun r6 h7 H => ?_) H
  obtain ⟨x8, rfl, H⟩ := H
  show cd_W X m_Law_law kc ks 584 [some (.ref 35), some (.ref 64), some (.ref 82), some (.int v3)] [.int x8, .int x4] h7 Q
  refine cd_icmp_eq (tgt := 589) d_Law_law_584 (by decide) (fun t9 => ?_) (fun t9 => ?_)
  · replace H := H.1 t9
    refine cd_iinc (i := 3) (v := (v3 + 5)) d_Law_law_589 rfl (cd_inc5 _) (by decide) ?_
    show cd_W X m_Law_law kc ks 592 [some (.ref 35), some (.ref 64), some (.ref 82), some (.int (v3 + 5))] [] h7 Q
    refine cd_goto (tgt := 28) d_Law_law_592 (by decide) ?_
    exact H
  · replace H := H.2 t9
    refine cd_iconst (v := 0) d_Law_law_587 (by decide) ?_
    show cd_W X m_Law_law kc ks 588 [some (.ref 35), some (.ref 64), some (.ref 82), some (.int v3)] [.int 0] h7 Q
    exact cd_iret d_Law_law_588 rfl rfl H

