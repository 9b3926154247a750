theorem g_Desk_openAccount_9b {X : cd_E} {kc ks : Nat} {h : cd_H} {Q : Option Value → cd_H → Prop} {v1 : Nat} {v3 : Int32} (F : cc_ok h) (H : cd_W X m_AL_size 0 0 0 [some (.ref 78)] [] h (fun r1 h2 => ∃ x3 : Int32, r1 = some (.int x3) ∧ ((cc_ok h2) ∧ ((((x3 ≤ v3) → (cd_W X m_AL_size 0 0 0 [some (.ref 78)] [] h2 (fun r6 h7 => ∃ x8 : Int32, r6 = some (.int x8) ∧ ((cc_ok h7) ∧ (cd_W X m_Desk_keep 0 0 0 [some (.ref 64), some (.int 3), none] [] h7 (fun r10 h11 => ∃ b12 : Nat, r10 = some (.ref b12) ∧ ((cc_ok h11) ∧ ((cd_k h11 b12 = some (.inl 10)) ∧ (((((cd_i h11 b12 0) = 0) → (cd_W X m_Fat_answer 0 0 0 [some (.ref b12), some (.int x8)] [] h11 (fun r16 h17 => ∃ x18 : Int32, r16 = some (.int x18) ∧ ((cc_ok h17) ∧ (Q (some (.int x18)) h17))))) ∧ ((¬ (cd_i h11 b12 0) = 0) → ((82 ≤ cd_n h11) ∧ (cd_W X m_Acc_init 0 0 0 [some (.ref (cd_n h11)), some (.ref v1)] [] (cd_new h11 (.inl 1)) (fun r21 h22 => (r21 = none) ∧ ((cc_ok h22) ∧ (cd_W X m_AL_add_LObjectZ 1 40 0 [some (.ref 78), some (.ref (cd_n h11))] [] h22 (fun r24 h25 => ∃ x26 : Int32, r24 = some (.int x26) ∧ ((cc_ok h25) ∧ ((cd_k h25 b12 = some (.inl 10)) ∧ (cd_W X m_Fat_answer 0 0 0 [some (.ref b12), some (.int x8)] [] h25 (fun r29 h30 => ∃ x31 : Int32, r29 = some (.int x31) ∧ ((cc_ok h30) ∧ (Q (some (.int x31)) h30))))))))))))))))))))))) ∧ ((¬ x3 ≤ v3) → (cd_W X m_AL_get 0 0 0 [some (.ref 78), some (.int v3)] [] h2 (fun r33 h34 => ∃ o35 : Option Nat, r33 = some (va_rf o35) ∧ ((cc_ok h34) ∧ ((∃ b37 : Nat, o35 = some b37 ∧ ((cd_k h34 b37 = some (.inl 1)) ∧ ((∃ b40 : Nat, (cd_r h34 b37 0) = some b40 ∧ ((cd_k h34 b40 = some (.inl 4)) ∧ ((cd_k h34 v1 = some (.inl 4)) ∧ ((((¬ (cd_i h34 b40 0) = (cd_i h34 v1 0)) → (cd_W X m_Desk_openAccount (kc + 2) (ks + 42) 9 [some (.ref 64), some (.ref v1), none, some (.int (v3 + 1)), none] [] h34 Q)) ∧ (((cd_i h34 b40 0) = (cd_i h34 v1 0)) → (((((cd_i h34 b37 1) = 0) → (Q (some (.int v3)) h34)) ∧ ((¬ (cd_i h34 b37 1) = 0) → (Q (some (.int (-4))) h34))))))))))))))))))))))) : cd_W X m_Desk_openAccount (kc + 2) (ks + 42) 9 [some (.ref 64), some (.ref v1), none, some (.int v3), none] [] h Q := by
  refine cd_iload_n (i := 3) d_Desk_openAccount_9 rfl rfl ?_
  refine cd_aload_n (i := 0) (v := .ref 64) d_Desk_openAccount_10 rfl rfl (cd_isr_ref _) ?_
  refine cd_get (v := .ref 78) d_Desk_openAccount_11 fl_Desk_71 (cc_k64 F) (congrArg va_rf (cc_r64_8 F)) ?_
  refine cd_callV (kc := (kc + 2)) (ks := (ks + 42)) (kc' := 0) (ks' := 0) (As := []) (S := [.int v3]) d_Desk_openAccount_14 ca_Desk_openAccount_135 (cc_k78 F) rfl (Nat.le_of_ble_eq_true rfl) (Nat.le_of_ble_eq_true rfl) ?_
  refine cd_W.mono (fun r1 h2 H => ?_) H
  obtain ⟨x3, rfl, H⟩ := H
  obtain ⟨F4, H⟩ := H
  show cd_W X m_Desk_openAccount (kc + 2) (ks + 42) 17 [some (.ref 64), some (.ref v1), none, some (.int v3), none] [.int x3, .int v3] h2 Q
  refine cd_icmp_ge (tgt := 69) d_Desk_openAccount_17 (by decide) (fun t5 => ?_) (fun t5 => ?_)
  · replace H := H.1 t5
    refine cd_aload_n (i := 0) (v := .ref 64) d_Desk_openAccount_69 rfl rfl (cd_isr_ref _) ?_
    show cd_W X m_Desk_openAccount (kc + 2) (ks + 42) 70 [some (.ref 64), some (.ref v1), none, some (.int v3), none] [.ref 64] h2 Q
    refine cd_get (v := .ref 78) d_Desk_openAccount_70 fl_Desk_71 (cc_k64 F4) (congrArg va_rf (cc_r64_8 F4)) ?_
    refine cd_callV (kc := (kc + 2)) (ks := (ks + 42)) (kc' := 0) (ks' := 0) (As := []) (S := []) d_Desk_openAccount_73 ca_Desk_openAccount_135 (cc_k78 F4) rfl (Nat.le_of_ble_eq_true rfl) (Nat.le_of_ble_eq_true rfl) ?_
    refine cd_W.mono (fun r6 h7 H => ?_) H
    obtain ⟨x8, rfl, H⟩ := H
    obtain ⟨F9, H⟩ := H
    show cd_W X m_Desk_openAccount (kc + 2) (ks + 42) 76 [some (.ref 64), some (.ref v1), none, some (.int v3), none] [.int x8] h7 Q
    refine cd_istore_n (i := 3) d_Desk_openAccount_76 rfl (by decide) ?_
    show cd_W X m_Desk_openAccount (kc + 2) (ks + 42) 77 [some (.ref 64), some (.ref v1), none, some (.int x8), none] [] h7 Q
    refine cd_aload_n (i := 0) (v := .ref 64) d_Desk_openAccount_77 rfl rfl (cd_isr_ref _) ?_
    refine cd_iconst (v := 3) d_Desk_openAccount_78 (by decide) ?_
    refine cd_callV (kc := (kc + 2)) (ks := (ks + 42)) (kc' := 0) (ks' := 0) (As := [.int 3]) (S := []) d_Desk_openAccount_79 ca_Desk_openAccount_150 (cc_k64 F9) rfl (Nat.le_of_ble_eq_true rfl) (Nat.le_of_ble_eq_true rfl) ?_
    refine cd_W.mono (fun r10 h11 H => ?_) H
    obtain ⟨b12, rfl, H⟩ := H
    obtain ⟨F13, H⟩ := H
    show cd_W X m_Desk_openAccount (kc + 2) (ks + 42) 82 [some (.ref 64), some (.ref v1), none, some (.int x8), none] [.ref b12] h11 Q
    refine cd_astore (i := 4) d_Desk_openAccount_82 (by decide) (cd_isr_ref _) ?_
    show cd_W X m_Desk_openAccount (kc + 2) (ks + 42) 84 [some (.ref 64), some (.ref v1), none, some (.int x8), some (.ref b12)] [] h11 Q
    refine cd_aload (i := 4) (v := .ref b12) d_Desk_openAccount_84 rfl (cd_isr_ref _) ?_
    show cd_W X m_Desk_openAccount (kc + 2) (ks + 42) 86 [some (.ref 64), some (.ref v1), none, some (.int x8), some (.ref b12)] [.ref b12] h11 Q
    obtain ⟨c14, H⟩ := H
    refine cd_get (v := .int (cd_i h11 b12 0)) d_Desk_openAccount_86 fl_Desk_157 c14 rfl ?_
    refine cd_if_eq (tgt := 108) d_Desk_openAccount_89 (by decide) (fun t15 => ?_) (fun t15 => ?_)
    · replace H := H.1 t15
      refine cd_aload (i := 4) (v := .ref b12) d_Desk_openAccount_108 rfl (cd_isr_ref _) ?_
      refine cd_iload_n (i := 3) d_Desk_openAccount_110 rfl rfl ?_
      refine cd_callV (kc := (kc + 2)) (ks := (ks + 42)) (kc' := 0) (ks' := 0) (As := [.int x8]) (S := []) d_Desk_openAccount_111 ca_Desk_openAccount_334 c14 rfl (Nat.le_of_ble_eq_true rfl) (Nat.le_of_ble_eq_true rfl) ?_
      refine cd_W.mono (fun r16 h17 H => ?_) H
      obtain ⟨x18, rfl, H⟩ := H
      obtain ⟨F19, H⟩ := H
      show cd_W X m_Desk_openAccount (kc + 2) (ks + 42) 114 [some (.ref 64), some (.ref v1), none, some (.int x8), some (.ref b12)] [.int x18] h17 Q
      exact cd_iret d_Desk_openAccount_114 rfl rfl H
    · replace H := H.2 t15
      refine cd_aload_n (i := 0) (v := .ref 64) d_Desk_openAccount_92 rfl rfl (cd_isr_ref _) ?_
      refine cd_get (v := .ref 78) d_Desk_openAccount_93 fl_Desk_71 (cc_k64 F13) (congrArg va_rf (cc_r64_8 F13)) ?_
      show cd_W X m_Desk_openAccount (kc + 2) (ks + 42) 96 [some (.ref 64), some (.ref v1), none, some (.int x8), some (.ref b12)] [.ref 78] h11 Q
      refine cd_newo (n := 2) (kc := (kc + 1)) (ks := (ks + 40)) d_Desk_openAccount_96 nc_Desk_180 ?_
      obtain ⟨c20, H⟩ := H
      refine cd_dup d_Desk_openAccount_99 rfl ?_
      refine cd_aload_n (i := 1) (v := .ref v1) d_Desk_openAccount_100 rfl rfl (cd_isr_ref _) ?_
      refine cd_callI (kc := (kc + 1)) (ks := (ks + 40)) (kc' := 0) (ks' := 0) (As := [.ref v1]) (S := [.ref (cd_n h11), .ref 78]) d_Desk_openAccount_101 ca_Desk_openAccount_327 rfl (Nat.le_of_ble_eq_true rfl) (Nat.le_of_ble_eq_true rfl) ?_
      refine cd_W.mono (fun r21 h22 H => ?_) H
      obtain ⟨rfl, H⟩ := H
      obtain ⟨F23, H⟩ := H
      show cd_W X m_Desk_openAccount (kc + 1) (ks + 40) 104 [some (.ref 64), some (.ref v1), none, some (.int x8), some (.ref b12)] [.ref (cd_n h11), .ref 78] h22 Q
      refine cd_callV (kc := (kc + 0)) (ks := (ks + 0)) (kc' := 1) (ks' := 40) (As := [.ref (cd_n h11)]) (S := []) d_Desk_openAccount_104 ca_Desk_openAccount_330 (cc_k78 F23) rfl (Nat.le_of_ble_eq_true rfl) (Nat.le_of_ble_eq_true rfl) ?_
      refine cd_W.mono (fun r24 h25 H => ?_) H
      obtain ⟨x26, rfl, H⟩ := H
      obtain ⟨F27, H⟩ := H
      show cd_W X m_Desk_openAccount (kc + 0) (ks + 0) 107 [some (.ref 64), some (.ref v1), none, some (.int x8), some (.ref b12)] [.int x26] h25 Q
      refine cd_pop d_Desk_openAccount_107 rfl ?_
      refine cd_aload (i := 4) (v := .ref b12) d_Desk_openAccount_108 rfl (cd_isr_ref _) ?_
      refine cd_iload_n (i := 3) d_Desk_openAccount_110 rfl rfl ?_
      show cd_W X m_Desk_openAccount (kc + 0) (ks + 0) 111 [some (.ref 64), some (.ref v1), none, some (.int x8), some (.ref b12)] [.int x8, .ref b12] h25 Q
      obtain ⟨c28, H⟩ := H
      refine cd_callV (kc := (kc + 0)) (ks := (ks + 0)) (kc' := 0) (ks' := 0) (As := [.int x8]) (S := []) d_Desk_openAccount_111 ca_Desk_openAccount_334 c28 rfl (Nat.le_of_ble_eq_true rfl) (Nat.le_of_ble_eq_true rfl) ?_
      refine cd_W.mono (fun r29 h30 H => ?_) H
      obtain ⟨x31, rfl, H⟩ := H
      obtain ⟨F32, H⟩ := H
      show cd_W X m_Desk_openAccount (kc + 0) (ks + 0) 114 [some (.ref 64), some (.ref v1), none, some (.int x8), some (.ref b12)] [.int x31] h30 Q
      exact cd_iret d_Desk_openAccount_114 rfl rfl H
  · replace H := H.2 t5
    refine cd_aload_n (i := 0) (v := .ref 64) d_Desk_openAccount_20 rfl rfl (cd_isr_ref _) ?_
    refine cd_get (v := .ref 78) d_Desk_openAccount_21 fl_Desk_71 (cc_k64 F4) (congrArg va_rf (cc_r64_8 F4)) ?_
    refine cd_iload_n (i := 3) d_Desk_openAccount_24 rfl rfl ?_
    refine cd_callV (kc := (kc + 2)) (ks := (ks + 42)) (kc' := 0) (ks' := 0) (As := [.int v3]) (S := []) d_Desk_openAccount_25 ca_Desk_openAccount_138 (cc_k78 F4) rfl (Nat.le_of_ble_eq_true rfl) (Nat.le_of_ble_eq_true rfl) ?_
    refine cd_W.mono (fun r33 h34 H => ?_) H
    obtain ⟨o35, rfl, H⟩ := H
    obtain ⟨F36, H⟩ := H
    show cd_W X m_Desk_openAccount (kc + 2) (ks + 42) 28 [some (.ref 64), some (.ref v1), none, some (.int v3), none] [va_rf o35] h34 Q
    obtain ⟨b37, e38, H⟩ := H
    rw [cd_rfs e38]
    obtain ⟨c39, H⟩ := H
    refine cd_cast d_Desk_openAccount_28 rfl ⟨kw_2_26, kw_2_152⟩ c39 ?_
    refine cd_astore (i := 4) d_Desk_openAccount_31 (by decide) (cd_isr_ref _) ?_
    show cd_W X m_Desk_openAccount (kc + 2) (ks + 42) 33 [some (.ref 64), some (.ref v1), none, some (.int v3), some (.ref b37)] [] h34 Q
    refine cd_aload (i := 4) (v := .ref b37) d_Desk_openAccount_33 rfl (cd_isr_ref _) ?_
    show cd_W X m_Desk_openAccount (kc + 2) (ks + 42) 35 [some (.ref 64), some (.ref v1), none, some (.int v3), some (.ref b37)] [.ref b37] h34 Q
    refine cd_get (v := va_rf (cd_r h34 b37 0)) d_Desk_openAccount_35 fl_Desk_184 c39 rfl ?_
    obtain ⟨b40, e41, H⟩ := H
    rw [cd_rfs e41]
    obtain ⟨c42, H⟩ := H
    refine cd_get (v := .int (cd_i h34 b40 0)) d_Desk_openAccount_38 fl_Desk_187 c42 rfl ?_
    refine cd_aload_n (i := 1) (v := .ref v1) d_Desk_openAccount_41 rfl rfl (cd_isr_ref _) ?_
    obtain ⟨c43, H⟩ := H
    refine cd_get (v := .int (cd_i h34 v1 0)) d_Desk_openAccount_42 fl_Desk_187 c43 rfl ?_
    refine cd_icmp_ne (tgt := 63) d_Desk_openAccount_45 (by decide) (fun t44 => ?_) (fun t44 => ?_)
    · replace H := H.1 t44
      refine cd_iinc (i := 3) (v := (v3 + 1)) d_Desk_openAccount_63 rfl (cd_inc1 _) (by decide) ?_
      show cd_W X m_Desk_openAccount (kc + 2) (ks + 42) 66 [some (.ref 64), some (.ref v1), none, some (.int (v3 + 1)), some (.ref b37)] [] h34 Q
      refine cd_goto (tgt := 9) d_Desk_openAccount_66 (by decide) ?_
      refine cd_W.drop (i := 4) ?_
      exact H
    · replace H := H.2 t44
      refine cd_aload (i := 4) (v := .ref b37) d_Desk_openAccount_48 rfl (cd_isr_ref _) ?_
      show cd_W X m_Desk_openAccount (kc + 2) (ks + 42) 50 [some (.ref 64), some (.ref v1), none, some (.int v3), some (.ref b37)] [.ref b37] h34 Q
      refine cd_get (v := .int (cd_i h34 b37 1)) d_Desk_openAccount_50 fl_Desk_179 c39 rfl ?_
      refine cd_if_eq (tgt := 61) d_Desk_openAccount_53 (by decide) (fun t45 => ?_) (fun t45 => ?_)
      · replace H := H.1 t45
        refine cd_iload_n (i := 3) d_Desk_openAccount_61 rfl rfl ?_
        exact cd_iret d_Desk_openAccount_62 rfl rfl H
      · replace H := H.2 t45
        refine cd_bipush (v := (-4)) d_Desk_openAccount_56 (by decide) ?_
        refine cd_goto (tgt := 62) d_Desk_openAccount_58 (by decide) ?_
        exact cd_iret d_Desk_openAccount_62 rfl rfl H

theorem g_Desk_placeOrder_48b {X : cd_E} {kc ks : Nat} {h : cd_H} {Q : Option Value → cd_H → Prop} {v1 : Nat} {v2 : Int32} {v3 : Int32} {v4 : Int32} {v5 : Int32} (F : cc_ok h) (H : (((v2 ≤ v5) → (cd_W X m_AL_size 0 0 0 [some (.ref 79)] [] h (fun r2 h3 => ∃ x4 : Int32, r2 = some (.int x4) ∧ ((cc_ok h3) ∧ ((((12 ≤ x4) → (Q (some (.int (-5))) h3)) ∧ ((¬ 12 ≤ x4) → (cd_W X m_AL_size 0 0 0 [some (.ref 80)] [] h3 (fun r7 h8 => ∃ x9 : Int32, r7 = some (.int x9) ∧ ((cc_ok h8) ∧ (((((x9 + v4) ≤ 24) → (cd_W X m_Desk_keep 0 0 0 [some (.ref 64), some (.int v3), none] [] h8 (fun r12 h13 => ∃ b14 : Nat, r12 = some (.ref b14) ∧ ((cc_ok h13) ∧ ((cd_k h13 b14 = some (.inl 10)) ∧ (((((cd_i h13 b14 0) = 0) → (cd_W X m_Fat_answer 0 0 0 [some (.ref b14), some (.int x4)] [] h13 (fun r18 h19 => ∃ x20 : Int32, r18 = some (.int x20) ∧ ((cc_ok h19) ∧ (Q (some (.int x20)) h19))))) ∧ ((¬ (cd_i h13 b14 0) = 0) → (cd_W X m_Desk_makeOrder 80 2200 0 [some (.ref 64), some (.ref v1), some (.int v2), none, none, none, none] [] h13 (fun r22 h23 => ∃ b24 : Nat, r22 = some (.ref b24) ∧ ((cc_ok h23) ∧ (cd_W X m_AL_add_LObjectZ 1 40 0 [some (.ref 79), some (.ref b24)] [] h23 (fun r26 h27 => ∃ x28 : Int32, r26 = some (.int x28) ∧ ((cc_ok h27) ∧ ((cd_k h27 b14 = some (.inl 10)) ∧ (cd_W X m_Fat_answer 0 0 0 [some (.ref b14), some (.int x4)] [] h27 (fun r31 h32 => ∃ x33 : Int32, r31 = some (.int x33) ∧ ((cc_ok h32) ∧ (Q (some (.int x33)) h32))))))))))))))))))) ∧ ((¬ (x9 + v4) ≤ 24) → (Q (some (.int (-5))) h8)))))))))))))) ∧ ((¬ v2 ≤ v5) → ((vp_in v5 32) ∧ (cd_W X m_Desk_provedPart 0 0 0 [some (.ref 64), some (.ref v1), some (.int (cd_i h 73 v5.toNatClampNeg)), none, none] [] h (fun r36 h37 => ∃ o38 : Option Nat, r36 = some (va_rf o38) ∧ ((cc_ok h37) ∧ ((((o38 = none) → (cd_W X m_Not_stringLength 0 0 0 [some (.ref 71), some (.int (cd_i h37 73 v5.toNatClampNeg)), none] [] h37 (fun r42 h43 => ∃ x44 : Int32, r42 = some (.int x44) ∧ ((cc_ok h43) ∧ (cd_W X m_Desk_placeOrder (kc + 81) (ks + 2240) 48 [some (.ref 64), some (.ref v1), some (.int v2), some (.int (v3 + (2 + x44))), some (.int (v4 + 1)), some (.int (v5 + 1)), none] [] h43 Q))))) ∧ (∀ b41 : Nat, o38 = some b41 → (cd_W X m_Desk_placeOrder (kc + 81) (ks + 2240) 48 [some (.ref 64), some (.ref v1), some (.int v2), some (.int (v3 + 1)), some (.int v4), some (.int (v5 + 1)), none] [] h37 Q))))))))))) : cd_W X m_Desk_placeOrder (kc + 81) (ks + 2240) 48 [some (.ref 64), some (.ref v1), some (.int v2), some (.int v3), some (.int v4), some (.int v5), none] [] h Q := by
  refine cd_iload (i := 5) d_Desk_placeOrder_48 rfl ?_
  refine cd_iload_n (i := 2) d_Desk_placeOrder_50 rfl rfl ?_
  refine cd_icmp_ge (tgt := 103) d_Desk_placeOrder_51 (by decide) (fun t1 => ?_) (fun t1 => ?_)
  · replace H := H.1 t1
    refine cd_aload_n (i := 0) (v := .ref 64) d_Desk_placeOrder_103 rfl rfl (cd_isr_ref _) ?_
    show cd_W X m_Desk_placeOrder (kc + 81) (ks + 2240) 104 [some (.ref 64), some (.ref v1), some (.int v2), some (.int v3), some (.int v4), some (.int v5), none] [.ref 64] h Q
    refine cd_get (v := .ref 79) d_Desk_placeOrder_104 fl_Desk_75 (cc_k64 F) (congrArg va_rf (cc_r64_9 F)) ?_
    refine cd_callV (kc := (kc + 81)) (ks := (ks + 2240)) (kc' := 0) (ks' := 0) (As := []) (S := []) d_Desk_placeOrder_107 ca_Desk_placeOrder_135 (cc_k79 F) rfl (Nat.le_of_ble_eq_true rfl) (Nat.le_of_ble_eq_true rfl) ?_
    refine cd_W.mono (fun r2 h3 H => ?_) H
    obtain ⟨x4, rfl, H⟩ := H
    obtain ⟨F5, H⟩ := H
    show cd_W X m_Desk_placeOrder (kc + 81) (ks + 2240) 110 [some (.ref 64), some (.ref v1), some (.int v2), some (.int v3), some (.int v4), some (.int v5), none] [.int x4] h3 Q
    refine cd_istore (i := 5) d_Desk_placeOrder_110 (by decide) ?_
    show cd_W X m_Desk_placeOrder (kc + 81) (ks + 2240) 112 [some (.ref 64), some (.ref v1), some (.int v2), some (.int v3), some (.int v4), some (.int x4), none] [] h3 Q
    refine cd_iload (i := 5) d_Desk_placeOrder_112 rfl ?_
    refine cd_bipush (v := 12) d_Desk_placeOrder_114 (by decide) ?_
    refine cd_icmp_ge (tgt := 134) d_Desk_placeOrder_116 (by decide) (fun t6 => ?_) (fun t6 => ?_)
    · replace H := H.1 t6
      refine cd_bipush (v := (-5)) d_Desk_placeOrder_134 (by decide) ?_
      exact cd_iret d_Desk_placeOrder_136 rfl rfl H
    · replace H := H.2 t6
      refine cd_aload_n (i := 0) (v := .ref 64) d_Desk_placeOrder_119 rfl rfl (cd_isr_ref _) ?_
      show cd_W X m_Desk_placeOrder (kc + 81) (ks + 2240) 120 [some (.ref 64), some (.ref v1), some (.int v2), some (.int v3), some (.int v4), some (.int x4), none] [.ref 64] h3 Q
      refine cd_get (v := .ref 80) d_Desk_placeOrder_120 fl_Desk_78 (cc_k64 F5) (congrArg va_rf (cc_r64_10 F5)) ?_
      refine cd_callV (kc := (kc + 81)) (ks := (ks + 2240)) (kc' := 0) (ks' := 0) (As := []) (S := []) d_Desk_placeOrder_123 ca_Desk_placeOrder_135 (cc_k80 F5) rfl (Nat.le_of_ble_eq_true rfl) (Nat.le_of_ble_eq_true rfl) ?_
      refine cd_W.mono (fun r7 h8 H => ?_) H
      obtain ⟨x9, rfl, H⟩ := H
      obtain ⟨F10, H⟩ := H
      show cd_W X m_Desk_placeOrder (kc + 81) (ks + 2240) 126 [some (.ref 64), some (.ref v1), some (.int v2), some (.int v3), some (.int v4), some (.int x4), none] [.int x9] h8 Q
      refine cd_iload (i := 4) d_Desk_placeOrder_126 rfl ?_
      refine cd_iadd d_Desk_placeOrder_128 ?_
      refine cd_bipush (v := 24) d_Desk_placeOrder_129 (by decide) ?_
      refine cd_icmp_le (tgt := 137) d_Desk_placeOrder_131 (by decide) (fun t11 => ?_) (fun t11 => ?_)
      · replace H := H.1 t11
        refine cd_aload_n (i := 0) (v := .ref 64) d_Desk_placeOrder_137 rfl rfl (cd_isr_ref _) ?_
        refine cd_iload_n (i := 3) d_Desk_placeOrder_138 rfl rfl ?_
        show cd_W X m_Desk_placeOrder (kc + 81) (ks + 2240) 139 [some (.ref 64), some (.ref v1), some (.int v2), some (.int v3), some (.int v4), some (.int x4), none] [.int v3, .ref 64] h8 Q
        refine cd_callV (kc := (kc + 81)) (ks := (ks + 2240)) (kc' := 0) (ks' := 0) (As := [.int v3]) (S := []) d_Desk_placeOrder_139 ca_Desk_placeOrder_150 (cc_k64 F10) rfl (Nat.le_of_ble_eq_true rfl) (Nat.le_of_ble_eq_true rfl) ?_
        refine cd_W.mono (fun r12 h13 H => ?_) H
        obtain ⟨b14, rfl, H⟩ := H
        obtain ⟨F15, H⟩ := H
        show cd_W X m_Desk_placeOrder (kc + 81) (ks + 2240) 142 [some (.ref 64), some (.ref v1), some (.int v2), some (.int v3), some (.int v4), some (.int x4), none] [.ref b14] h13 Q
        refine cd_astore (i := 6) d_Desk_placeOrder_142 (by decide) (cd_isr_ref _) ?_
        show cd_W X m_Desk_placeOrder (kc + 81) (ks + 2240) 144 [some (.ref 64), some (.ref v1), some (.int v2), some (.int v3), some (.int v4), some (.int x4), some (.ref b14)] [] h13 Q
        refine cd_aload (i := 6) (v := .ref b14) d_Desk_placeOrder_144 rfl (cd_isr_ref _) ?_
        obtain ⟨c16, H⟩ := H
        refine cd_get (v := .int (cd_i h13 b14 0)) d_Desk_placeOrder_146 fl_Desk_157 c16 rfl ?_
        refine cd_if_eq (tgt := 166) d_Desk_placeOrder_149 (by decide) (fun t17 => ?_) (fun t17 => ?_)
        · replace H := H.1 t17
          refine cd_aload (i := 6) (v := .ref b14) d_Desk_placeOrder_166 rfl (cd_isr_ref _) ?_
          refine cd_iload (i := 5) d_Desk_placeOrder_168 rfl ?_
          refine cd_callV (kc := (kc + 81)) (ks := (ks + 2240)) (kc' := 0) (ks' := 0) (As := [.int x4]) (S := []) d_Desk_placeOrder_170 ca_Desk_placeOrder_334 c16 rfl (Nat.le_of_ble_eq_true rfl) (Nat.le_of_ble_eq_true rfl) ?_
          refine cd_W.mono (fun r18 h19 H => ?_) H
          obtain ⟨x20, rfl, H⟩ := H
          obtain ⟨F21, H⟩ := H
          show cd_W X m_Desk_placeOrder (kc + 81) (ks + 2240) 173 [some (.ref 64), some (.ref v1), some (.int v2), some (.int v3), some (.int v4), some (.int x4), some (.ref b14)] [.int x20] h19 Q
          exact cd_iret d_Desk_placeOrder_173 rfl rfl H
        · replace H := H.2 t17
          refine cd_aload_n (i := 0) (v := .ref 64) d_Desk_placeOrder_152 rfl rfl (cd_isr_ref _) ?_
          show cd_W X m_Desk_placeOrder (kc + 81) (ks + 2240) 153 [some (.ref 64), some (.ref v1), some (.int v2), some (.int v3), some (.int v4), some (.int x4), some (.ref b14)] [.ref 64] h13 Q
          refine cd_get (v := .ref 79) d_Desk_placeOrder_153 fl_Desk_75 (cc_k64 F15) (congrArg va_rf (cc_r64_9 F15)) ?_
          refine cd_aload_n (i := 0) (v := .ref 64) d_Desk_placeOrder_156 rfl rfl (cd_isr_ref _) ?_
          refine cd_aload_n (i := 1) (v := .ref v1) d_Desk_placeOrder_157 rfl rfl (cd_isr_ref _) ?_
          refine cd_iload_n (i := 2) d_Desk_placeOrder_158 rfl rfl ?_
          refine cd_callV (kc := (kc + 1)) (ks := (ks + 40)) (kc' := 80) (ks' := 2200) (As := [.ref v1, .int v2]) (S := [.ref 79]) d_Desk_placeOrder_159 ca_Desk_placeOrder_353 (cc_k64 F15) rfl (Nat.le_of_ble_eq_true rfl) (Nat.le_of_ble_eq_true rfl) ?_
          refine cd_W.mono (fun r22 h23 H => ?_) H
          obtain ⟨b24, rfl, H⟩ := H
          obtain ⟨F25, H⟩ := H
          show cd_W X m_Desk_placeOrder (kc + 1) (ks + 40) 162 [some (.ref 64), some (.ref v1), some (.int v2), some (.int v3), some (.int v4), some (.int x4), some (.ref b14)] [.ref b24, .ref 79] h23 Q
          refine cd_callV (kc := (kc + 0)) (ks := (ks + 0)) (kc' := 1) (ks' := 40) (As := [.ref b24]) (S := []) d_Desk_placeOrder_162 ca_Desk_placeOrder_330 (cc_k79 F25) rfl (Nat.le_of_ble_eq_true rfl) (Nat.le_of_ble_eq_true rfl) ?_
          refine cd_W.mono (fun r26 h27 H => ?_) H
          obtain ⟨x28, rfl, H⟩ := H
          obtain ⟨F29, H⟩ := H
          show cd_W X m_Desk_placeOrder (kc + 0) (ks + 0) 165 [some (.ref 64), some (.ref v1), some (.int v2), some (.int v3), some (.int v4), some (.int x4), some (.ref b14)] [.int x28] h27 Q
          refine cd_pop d_Desk_placeOrder_165 rfl ?_
          refine cd_aload (i := 6) (v := .ref b14) d_Desk_placeOrder_166 rfl (cd_isr_ref _) ?_
          show cd_W X m_Desk_placeOrder (kc + 0) (ks + 0) 168 [some (.ref 64), some (.ref v1), some (.int v2), some (.int v3), some (.int v4), some (.int x4), some (.ref b14)] [.ref b14] h27 Q
          refine cd_iload (i := 5) d_Desk_placeOrder_168 rfl ?_
          obtain ⟨c30, H⟩ := H
          refine cd_callV (kc := (kc + 0)) (ks := (ks + 0)) (kc' := 0) (ks' := 0) (As := [.int x4]) (S := []) d_Desk_placeOrder_170 ca_Desk_placeOrder_334 c30 rfl (Nat.le_of_ble_eq_true rfl) (Nat.le_of_ble_eq_true rfl) ?_
          refine cd_W.mono (fun r31 h32 H => ?_) H
          obtain ⟨x33, rfl, H⟩ := H
          obtain ⟨F34, H⟩ := H
          show cd_W X m_Desk_placeOrder (kc + 0) (ks + 0) 173 [some (.ref 64), some (.ref v1), some (.int v2), some (.int v3), some (.int v4), some (.int x4), some (.ref b14)] [.int x33] h32 Q
          exact cd_iret d_Desk_placeOrder_173 rfl rfl H
      · replace H := H.2 t11
        refine cd_bipush (v := (-5)) d_Desk_placeOrder_134 (by decide) ?_
        exact cd_iret d_Desk_placeOrder_136 rfl rfl H
  · replace H := H.2 t1
    refine cd_aload_n (i := 0) (v := .ref 64) d_Desk_placeOrder_54 rfl rfl (cd_isr_ref _) ?_
    refine cd_aload_n (i := 1) (v := .ref v1) d_Desk_placeOrder_55 rfl rfl (cd_isr_ref _) ?_
    refine cd_aload_n (i := 0) (v := .ref 64) d_Desk_placeOrder_56 rfl rfl (cd_isr_ref _) ?_
    show cd_W X m_Desk_placeOrder (kc + 81) (ks + 2240) 57 [some (.ref 64), some (.ref v1), some (.int v2), some (.int v3), some (.int v4), some (.int v5), none] [.ref 64, .ref v1, .ref 64] h Q
    refine cd_get (v := .ref 73) d_Desk_placeOrder_57 fl_Desk_41 (cc_k64 F) (congrArg va_rf (cc_r64_4 F)) ?_
    refine cd_iload (i := 5) d_Desk_placeOrder_60 rfl ?_
    obtain ⟨c35, H⟩ := H
    refine cd_iald (j := v5) d_Desk_placeOrder_62 rfl (cc_k73 F) c35 ?_
    refine cd_callV (kc := (kc + 81)) (ks := (ks + 2240)) (kc' := 0) (ks' := 0) (As := [.ref v1, .int (cd_i h 73 v5.toNatClampNeg)]) (S := []) d_Desk_placeOrder_63 ca_Desk_placeOrder_346 (cc_k64 F) rfl (Nat.le_of_ble_eq_true rfl) (Nat.le_of_ble_eq_true rfl) ?_
    refine cd_W.mono (fun r36 h37 H => ?_) H
    obtain ⟨o38, rfl, H⟩ := H
    obtain ⟨F39, H⟩ := H
    show cd_W X m_Desk_placeOrder (kc + 81) (ks + 2240) 66 [some (.ref 64), some (.ref v1), some (.int v2), some (.int v3), some (.int v4), some (.int v5), none] [va_rf o38] h37 Q
    refine cd_ifnonnull (r := o38) (tgt := 94) d_Desk_placeOrder_66 (by decide) (fun b41 t40 => ?_) (fun t40 => ?_)
    · replace H := H.2 b41 t40
      refine cd_iinc (i := 3) (v := (v3 + 1)) d_Desk_placeOrder_94 rfl (cd_inc1 _) (by decide) ?_
      show cd_W X m_Desk_placeOrder (kc + 81) (ks + 2240) 97 [some (.ref 64), some (.ref v1), some (.int v2), some (.int (v3 + 1)), some (.int v4), some (.int v5), none] [] h37 Q
      refine cd_iinc (i := 5) (v := (v5 + 1)) d_Desk_placeOrder_97 rfl (cd_inc1 _) (by decide) ?_
      show cd_W X m_Desk_placeOrder (kc + 81) (ks + 2240) 100 [some (.ref 64), some (.ref v1), some (.int v2), some (.int (v3 + 1)), some (.int v4), some (.int (v5 + 1)), none] [] h37 Q
      refine cd_goto (tgt := 48) d_Desk_placeOrder_100 (by decide) ?_
      exact H
    · replace H := H.1 t40
      refine cd_iinc (i := 4) (v := (v4 + 1)) d_Desk_placeOrder_69 rfl (cd_inc1 _) (by decide) ?_
      show cd_W X m_Desk_placeOrder (kc + 81) (ks + 2240) 72 [some (.ref 64), some (.ref v1), some (.int v2), some (.int v3), some (.int (v4 + 1)), some (.int v5), none] [] h37 Q
      refine cd_iload_n (i := 3) d_Desk_placeOrder_72 rfl rfl ?_
      show cd_W X m_Desk_placeOrder (kc + 81) (ks + 2240) 73 [some (.ref 64), some (.ref v1), some (.int v2), some (.int v3), some (.int (v4 + 1)), some (.int v5), none] [.int v3] h37 Q
      refine cd_iconst (v := 2) d_Desk_placeOrder_73 (by decide) ?_
      refine cd_aload_n (i := 0) (v := .ref 64) d_Desk_placeOrder_74 rfl rfl (cd_isr_ref _) ?_
      refine cd_get (v := .ref 71) d_Desk_placeOrder_75 fl_Desk_37 (cc_k64 F39) (congrArg va_rf (cc_r64_3 F39)) ?_
      refine cd_aload_n (i := 0) (v := .ref 64) d_Desk_placeOrder_78 rfl rfl (cd_isr_ref _) ?_
      refine cd_get (v := .ref 73) d_Desk_placeOrder_79 fl_Desk_41 (cc_k64 F39) (congrArg va_rf (cc_r64_4 F39)) ?_
      refine cd_iload (i := 5) d_Desk_placeOrder_82 rfl ?_
      refine cd_iald (j := v5) d_Desk_placeOrder_84 rfl (cc_k73 F39) c35 ?_
      refine cd_callV (kc := (kc + 81)) (ks := (ks + 2240)) (kc' := 0) (ks' := 0) (As := [.int (cd_i h37 73 v5.toNatClampNeg)]) (S := [.int 2, .int v3]) d_Desk_placeOrder_85 ca_Desk_placeOrder_350 (cc_k71 F39) rfl (Nat.le_of_ble_eq_true rfl) (Nat.le_of_ble_eq_true rfl) ?_
      refine cd_W.mono (fun r42 h43 H => ?_) H
      obtain ⟨x44, rfl, H⟩ := H
      obtain ⟨F45, H⟩ := H
      show cd_W X m_Desk_placeOrder (kc + 81) (ks + 2240) 88 [some (.ref 64), some (.ref v1), some (.int v2), some (.int v3), some (.int (v4 + 1)), some (.int v5), none] [.int x44, .int 2, .int v3] h43 Q
      refine cd_iadd d_Desk_placeOrder_88 ?_
      show cd_W X m_Desk_placeOrder (kc + 81) (ks + 2240) 89 [some (.ref 64), some (.ref v1), some (.int v2), some (.int v3), some (.int (v4 + 1)), some (.int v5), none] [.int (2 + x44), .int v3] h43 Q
      refine cd_iadd d_Desk_placeOrder_89 ?_
      refine cd_istore_n (i := 3) d_Desk_placeOrder_90 rfl (by decide) ?_
      show cd_W X m_Desk_placeOrder (kc + 81) (ks + 2240) 91 [some (.ref 64), some (.ref v1), some (.int v2), some (.int (v3 + (2 + x44))), some (.int (v4 + 1)), some (.int v5), none] [] h43 Q
      refine cd_goto (tgt := 97) d_Desk_placeOrder_91 (by decide) ?_
      refine cd_iinc (i := 5) (v := (v5 + 1)) d_Desk_placeOrder_97 rfl (cd_inc1 _) (by decide) ?_
      show cd_W X m_Desk_placeOrder (kc + 81) (ks + 2240) 100 [some (.ref 64), some (.ref v1), some (.int v2), some (.int (v3 + (2 + x44))), some (.int (v4 + 1)), some (.int (v5 + 1)), none] [] h43 Q
      refine cd_goto (tgt := 48) d_Desk_placeOrder_100 (by decide) ?_
      exact H

