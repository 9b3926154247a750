theorem g_Not_string_19b {X : cd_E} {kc ks : Nat} {h : cd_H} {Q : Option Value → cd_H → Prop} {v2 : Nat} {v3 : Int32} {v4 : Int32} (F : cc_ok h) (H : ((((v3 - 1) ≤ v4) → ((cd_k h v2 = some (.inl 14)) ∧ (cd_W X m_SB_toString 2 16 0 [some (.ref v2)] [] h (fun r3 h4 => ∃ b5 : Nat, r3 = some (.ref b5) ∧ ((cc_ok h4) ∧ (Q (some (.ref b5)) h4)))))) ∧ ((¬ (v3 - 1) ≤ v4) → ((vp_in v4 96) ∧ ((cd_k h v2 = some (.inl 14)) ∧ (cd_W X m_SB_append_CLStringBuilder 0 0 0 [some (.ref v2), some (.int (cd_i h 72 v4.toNatClampNeg))] [] h (fun r9 h10 => ∃ b11 : Nat, r9 = some (.ref b11) ∧ ((cc_ok h10) ∧ (cd_W X m_Not_string (kc + 2) (ks + 16) 19 [some (.ref 71), none, some (.ref v2), some (.int v3), some (.int (v4 + 1))] [] h10 Q))))))))) : cd_W X m_Not_string (kc + 2) (ks + 16) 19 [some (.ref 71), none, some (.ref v2), some (.int v3), some (.int v4)] [] h Q := by
  refine cd_iload (i := 4) d_Not_string_19 rfl ?_
  show cd_W X m_Not_string (kc + 2) (ks + 16) 21 [some (.ref 71), none, some (.ref v2), some (.int v3), some (.int v4)] [.int v4] h Q
  refine cd_iload_n (i := 3) d_Not_string_21 rfl rfl ?_
  refine cd_iconst (v := 1) d_Not_string_22 (by decide) ?_
  refine cd_isub d_Not_string_23 ?_
  refine cd_icmp_ge (tgt := 45) d_Not_string_24 (by decide) (fun t1 => ?_) (fun t1 => ?_)
  · replace H := H.1 t1
    refine cd_aload_n (i := 2) (v := .ref v2) d_Not_string_45 rfl rfl (cd_isr_ref _) ?_
    obtain ⟨c2, H⟩ := H
    refine cd_callV (kc := (kc + 0)) (ks := (ks + 0)) (kc' := 2) (ks' := 16) (As := []) (S := []) d_Not_string_46 ca_Not_string_63 c2 rfl (Nat.le_of_ble_eq_true rfl) (Nat.le_of_ble_eq_true rfl) ?_
    refine cd_W.mono (fun r3 h4 H => ?_) H
    obtain ⟨b5, rfl, H⟩ := H
    obtain ⟨F6, H⟩ := H
    show cd_W X m_Not_string (kc + 0) (ks + 0) 49 [some (.ref 71), none, some (.ref v2), some (.int v3), some (.int v4)] [.ref b5] h4 Q
    exact cd_aret d_Not_string_49 rfl (Or.inl ⟨_, rfl⟩) (cd_isr_ref _) H
  · replace H := H.2 t1
    refine cd_aload_n (i := 2) (v := .ref v2) d_Not_string_27 rfl rfl (cd_isr_ref _) ?_
    show cd_W X m_Not_string (kc + 2) (ks + 16) 28 [some (.ref 71), none, some (.ref v2), some (.int v3), some (.int v4)] [.ref v2] h Q
    refine cd_aload_n (i := 0) (v := .ref 71) d_Not_string_28 rfl rfl (cd_isr_ref _) ?_
    refine cd_get (v := .ref 72) d_Not_string_29 fl_Not_11 (cc_k71 F) (congrArg va_rf (cc_r71_0 F)) ?_
    refine cd_iload (i := 4) d_Not_string_32 rfl ?_
    obtain ⟨c7, H⟩ := H
    refine cd_cald (j := v4) d_Not_string_34 rfl (cc_k72 F) c7 ?_
    obtain ⟨c8, H⟩ := H
    refine cd_callV (kc := (kc + 2)) (ks := (ks + 16)) (kc' := 0) (ks' := 0) (As := [.int (cd_i h 72 v4.toNatClampNeg)]) (S := []) d_Not_string_35 ca_Not_string_59 c8 rfl (Nat.le_of_ble_eq_true rfl) (Nat.le_of_ble_eq_true rfl) ?_
    refine cd_W.mono (fun r9 h10 H => ?_) H
    obtain ⟨b11, rfl, H⟩ := H
    obtain ⟨F12, H⟩ := H
    show cd_W X m_Not_string (kc + 2) (ks + 16) 38 [some (.ref 71), none, some (.ref v2), some (.int v3), some (.int v4)] [.ref b11] h10 Q
    refine cd_pop d_Not_string_38 rfl ?_
    refine cd_iinc (i := 4) (v := (v4 + 1)) d_Not_string_39 rfl (cd_inc1 _) (by decide) ?_
    show cd_W X m_Not_string (kc + 2) (ks + 16) 42 [some (.ref 71), none, some (.ref v2), some (.int v3), some (.int (v4 + 1))] [] h10 Q
    refine cd_goto (tgt := 19) d_Not_string_42 (by decide) ?_
    exact H

