def cc_cer (h : cd_H) (now : Nat) (accs : List Nat) (AU : List sg_U) (OR : List sg_O) (CE : List sg_C) (cers : List Nat) (b cap : Nat) : Prop := CE.length ≤ 12 ∧ cc_lst h 81 cers b cap ∧ cers.length = CE.length ∧ cers.Nodup ∧ ∀ (i x : Nat) (c : sg_C), cers[i]? = some x → CE[i]? = some c → (114 ≤ x ∧ cd_k h x = some (.inl 3)) ∧ (∃ o y, OR[sgc_ord c]? = some o ∧ accs[sgo_own o]? = some y ∧ cd_r h x 0 = some y) ∧ cd_i h x 1 = nI (sgc_made c) ∧ sgc_made c ≤ now ∧ (∃ oc ob, cd_r h x 2 = some oc ∧ 114 ≤ oc ∧ 114 ≤ ob ∧ cc_oct h oc ob (sg_crC AU OR i c)) ∧ cd_i h x 3 = cd_op (sgc_why c) ∧ ∀ w, sgc_why c = some w → w ≤ 10
theorem cc_oct.ch {A : Nat → Prop} {h h' : cd_H} {o ob : Nat} {l : List Nat} (O : cc_oct h o ob l) (hn : cd_bd h) (C : cd_ch A h h') (hA : ∀ x, A x → ¬ cd_k h x = some (.inl 7) ∧ ¬ cd_k h x = some (.inr (0, 80))) : cc_oct h' o ob l := by
  obtain ⟨o0, o1, o2, o3, o4, o5, o6, o7⟩ := O
  obtain ⟨p1, p2, p3⟩ := C.2.2 o (hn _ _ o1) (fun z => (hA o z).1 o1)
  obtain ⟨q1, q2, q3⟩ := C.2.2 ob (hn _ _ o4) (fun z => (hA ob z).2 o4)
  exact ⟨o0, by rw [C.2.1 o (hn _ _ o1)]; exact o1, by rw [p3]; exact o2, o3, by rw [C.2.1 ob (hn _ _ o4)]; exact o4, o5, by rw [p1]; exact o6, fun j v hj => by rw [q1]; exact o7 j v hj⟩
theorem cc_cer.ch {A : Nat → Prop} {h h' : cd_H} {now : Nat} {accs : List Nat} {AU : List sg_U} {OR : List sg_O} {CE : List sg_C} {cers : List Nat} {b cap : Nat} (U : cc_cer h now accs AU OR CE cers b cap) (hn : cd_bd h) (C : cd_ch A h h') (h81 : ¬ A 81) (hb : ¬ A b) (hA : ∀ x, A x → ¬ cd_k h x = some (.inl 3) ∧ ¬ cd_k h x = some (.inl 7) ∧ ¬ cd_k h x = some (.inr (0, 80))) : cc_cer h' now accs AU OR CE cers b cap := by
  obtain ⟨u1, u2, u3, u4, u5⟩ := U
  refine ⟨u1, u2.ch C (hn _ _ u2.2.1) (hn _ _ u2.2.2.2.2.1) h81 hb, u3, u4, fun i x a hx ha => ?_⟩
  obtain ⟨⟨c1, c2⟩, ⟨o, y, c3, c3b, c3c⟩, c4, c5, ⟨oc, ob, c6, c6b, c6c, c6d⟩, c7, c8⟩ := u5 i x a hx ha
  have hx2 := hn _ _ c2
  obtain ⟨p1, p2, p3⟩ := C.2.2 x hx2 (fun w => (hA x w).1 c2)
  exact ⟨⟨c1, by rw [C.2.1 x hx2]; exact c2⟩, ⟨o, y, c3, c3b, by rw [p3]; exact c3c⟩, by rw [p1]; exact c4, c5, ⟨oc, ob, by rw [p3]; exact c6, c6b, c6c, c6d.ch hn C (fun w hw => (hA w hw).2)⟩, by rw [p1]; exact c7, c8⟩
section VDR
variable {X : cd_E} {kc ks : Nat} {h : cd_H} {Q : Option Value → cd_H → Prop} {life now : Nat} {AC : List sg_A} {AU : List sg_U} {OR : List sg_O} {CE : List sg_C} {accs cers : List Nat} {b cap : Nat}
theorem sp_Desk_certificateAt (F : cc_ok h) (C : cc_cer h now accs AU OR CE cers b cap) {x : Int32} (hq : Q (some (va_rf cers[sg_ix x]?)) h) : cd_W X m_Desk_certificateAt kc ks 0 [some (.ref 64), some (.int x)] [] h Q := by
  obtain ⟨a1, a2, a3, a4, a5⟩ := C
  refine g_Desk_certificateAt F ⟨fun hx => ?_, fun hx => sp_AL_size a2 ⟨_, rfl, F, ?_⟩⟩
  · rw [sg_ix_neg hx (by omega)] at hq
    exact hq
  · obtain ⟨j, hj, rfl⟩ := nI_of hx
    rw [sg_ix_nI hj] at hq
    rw [nI_leI (by omega) hj]
    refine ⟨fun t => ?_, fun t => ?_⟩
    · rw [List.getElem?_eq_none t] at hq
      exact hq
    · have hlt : j < cers.length := by omega
      have e : cers[j]? = some cers[j] := List.getElem?_eq_getElem hlt
      have e2 : CE[j]? = some CE[j] := List.getElem?_eq_getElem (by omega)
      rw [e] at hq
      exact sp_AL_get a2 e ⟨some _, rfl, F, _, rfl, (a5 j _ _ e e2).1.2, hq⟩
theorem sp_Desk_standing (F : cc_ok h) (K : cc_clk h life now) (C : cc_cer h now accs AU OR CE cers b cap) {x : Int32} (hq : Q (some (.int (sg_std now CE x))) h) : cd_W X m_Desk_standing kc ks 0 [some (.ref 64), some (.int x), none] [] h Q := by
  have c3 := C.2.2.1
  obtain ⟨k1, k2, k3, k4⟩ := K
  refine g_Desk_standing F (sp_Desk_certificateAt F C ⟨_, rfl, F, fun hn => ?_, fun y hy => ?_⟩)
  · have : CE[sg_ix x]? = none := by
      rw [List.getElem?_eq_none_iff] at hn ⊢
      omega
    rw [sg_std, this] at hq
    exact hq
  · have hlt : sg_ix x < cers.length := (List.getElem?_eq_some_iff.mp hy).1
    have hl2 : sg_ix x < CE.length := by omega
    have e2 : CE[sg_ix x]? = some CE[sg_ix x] := List.getElem?_eq_getElem hl2
    obtain ⟨⟨d1, d2⟩, d3, d4, d5, d6, d7, d8⟩ := C.2.2.2.2 _ _ _ hy e2
    rw [sg_std, e2] at hq
    simp only at hq
    rw [d7, d4, k4, pk_sub (by omega), show (20 : Int32) = nI 20 by decide, nI_ltI (by omega) (by decide)]
    refine ⟨d2, ?_⟩
    cases hw : sgc_why CE[sg_ix x] with
    | none =>
      rw [hw] at hq
      simp only at hq
      refine ⟨fun _ => ⟨fun t => ?_, fun t => ?_⟩, fun z => absurd rfl z⟩
      · rw [if_pos t] at hq; exact hq
      · rw [if_neg t] at hq; exact hq
    | some w =>
      have hwl := d8 w hw
      rw [hw] at hq
      simp only at hq
      refine ⟨fun z => ?_, fun _ => ?_⟩
      · have := cd_op_pos (q := w) (by omega)
        rw [z] at this
        exact absurd (by decide) this
      · show Q (some (.int (100 + nI w))) h
        rw [show (100 : Int32) = nI 100 by decide, nI_add]
        exact hq
theorem sp_Desk_octet (F : cc_ok h) (C : cc_cer h now accs AU OR CE cers b cap) {x k : Int32} (hq : Q (some (.int (sg_oct AU OR CE x k))) h) : cd_W X m_Desk_octet kc ks 0 [some (.ref 64), some (.int x), some (.int k), none] [] h Q := by
  have c3 := C.2.2.1
  refine g_Desk_octet F (sp_Desk_certificateAt F C ⟨_, rfl, F, fun hn => ?_, fun y hy => ?_⟩)
  · have : CE[sg_ix x]? = none := by
      rw [List.getElem?_eq_none_iff] at hn ⊢
      omega
    rw [sg_oct, this] at hq
    exact hq
  · have hlt : sg_ix x < cers.length := (List.getElem?_eq_some_iff.mp hy).1
    have hl2 : sg_ix x < CE.length := by omega
    have e2 : CE[sg_ix x]? = some CE[sg_ix x] := List.getElem?_eq_getElem hl2
    obtain ⟨⟨d1, d2⟩, d3, d4, d5, ⟨oc, ob, d6, d6b, d6c, d6d⟩, d7, d8⟩ := C.2.2.2.2 _ _ _ hy e2
    rw [sg_oct, e2] at hq
    simp only [sg_octA] at hq
    refine ⟨fun t => ⟨d2, oc, d6, d6d.2.1, sp_Oct_at F d6d ⟨_, rfl, F, ?_⟩⟩, fun t => ⟨d2, oc, d6, d6d.2.1, ?_⟩⟩
    · rw [if_neg t] at hq
      exact hq
    · rw [if_pos t] at hq
      rw [d6d.2.2.2.2.2.2.1]
      exact hq
theorem sp_Desk_listing_5 (F : cc_ok h) (Ky : cc_kys h) (C : cc_cer h now accs AU OR CE cers b cap) : ∀ (r j d : Nat), r + j = CE.length → d < 2147483647 → Q (some (.int (nI (sg_sig 4 (sg_ls (CE.drop j) j d))))) h → cd_W X m_Desk_listing kc ks 5 [some (.ref 64), some (.int (nI d)), some (.int (nI j)), none] [] h Q := by
  have c1 := C.1
  have c3 := C.2.2.1
  intro r
  induction r with
  | zero =>
    intro j d hj hd hq
    rw [List.drop_of_length_le (by omega), sg_ls] at hq
    refine g_Desk_listing_5 F (sp_AL_size C.2.1 ⟨_, rfl, F, ?_⟩)
    rw [nI_leI (by omega) (by omega)]
    refine ⟨fun _ => ?_, fun t => by omega⟩
    show cd_W X m_Key_sign 0 0 0 [some (.ref (66 + 4)), some (.int (nI d))] [] h _
    exact sp_Key_sign F Ky (by decide) (by omega) ⟨_, rfl, F, hq⟩
  | succ r ih =>
    intro j d hj hd hq
    have hlt : j < CE.length := by omega
    have e : CE[j]? = some CE[j] := List.getElem?_eq_getElem hlt
    have ec : cers[j]? = some (cers[j]'(by omega)) := List.getElem?_eq_getElem (by omega)
    obtain ⟨⟨d1, d2⟩, d3, d4, d5, d6, d7, d8⟩ := C.2.2.2.2 _ _ _ ec e
    rw [List.drop_eq_getElem_cons hlt, sg_ls] at hq
    refine g_Desk_listing_5 F (sp_AL_size C.2.1 ⟨_, rfl, F, ?_⟩)
    rw [nI_leI (by omega) (by omega), nI_1]
    refine ⟨fun t => by omega, fun _ => sp_AL_get C.2.1 ec ⟨some _, rfl, F, _, rfl, d2, ?_⟩⟩
    rw [d7]
    cases hw : sgc_why CE[j] with
    | none =>
      rw [hw] at hq
      exact ⟨fun _ => ih (j + 1) d (by omega) hd hq, fun z => absurd rfl z⟩
    | some w =>
      have hwl := d8 w hw
      rw [hw] at hq d7
      refine ⟨fun z => ?_, fun _ => ?_⟩
      · have := cd_op_pos (q := w) (by omega)
        rw [z] at this
        exact absurd (by decide) this
      · refine sp_Dig_with F hd (by omega) ⟨_, rfl, F, d2, ?_⟩
        rw [d7]
        show cd_W X m_Dig_with 0 0 0 [some (.int (nI _)), some (.int (nI w))] [] h _
        exact sp_Dig_with F (cd_dg_lt _ _) (by omega) ⟨_, rfl, F, ih (j + 1) _ (by omega) (cd_dg_lt _ _) hq⟩
theorem sp_Desk_listing (F : cc_ok h) (Ky : cc_kys h) (C : cc_cer h now accs AU OR CE cers b cap) (hq : Q (some (.int (nI (sg_sig 4 (sg_ls CE 0 7))))) h) : cd_W X m_Desk_listing kc ks 0 [some (.ref 64), none, none, none] [] h Q := by
  refine g_Desk_listing F ?_
  show cd_W X m_Desk_listing kc ks 5 [some (.ref 64), some (.int (nI 7)), some (.int (nI 0)), none] [] h Q
  exact sp_Desk_listing_5 F Ky C CE.length 0 7 (by omega) (by decide) hq
end VDR
