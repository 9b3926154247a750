def sg_pc (auts : List Nat) (ps : List Nat) : List Nat := ps.map (fun p => auts.getD p 0)
def cc_ord (h : cd_H) (now : Nat) (accs auts : List Nat) (OR : List sg_O) (ords : List Nat) (b cap : Nat) : Prop := OR.length ≤ 12 ∧ cc_lst h 79 ords b cap ∧ ords.length = OR.length ∧ ords.Nodup ∧ ∀ (i x : Nat) (o : sg_O), ords[i]? = some x → OR[i]? = some o → (114 ≤ x ∧ cd_k h x = some (.inl 8)) ∧ (∃ y, accs[sgo_own o]? = some y ∧ cd_r h x 0 = some y) ∧ cd_i h x 1 = nI (sgo_made o) ∧ sgo_made o ≤ now ∧ (sgo_parts o).length ≤ 3 ∧ (∀ p, p ∈ sgo_parts o → p < auts.length) ∧ (∃ pl pb pcap, cd_r h x 2 = some pl ∧ 114 ≤ pl ∧ cc_lst h pl (sg_pc auts (sgo_parts o)) pb pcap) ∧ cd_i h x 3 = cd_op (sgo_cert o) ∧ ∀ c, sgo_cert o = some c → c < 12
section VDO
variable {X : cd_E} {kc ks : Nat} {h : cd_H} {Q : Option Value → cd_H → Prop} {life now : Nat} {AC : List sg_A} {AU : List sg_U} {OR : List sg_O} {accs auts ords : List Nat} {b cap : Nat}
theorem sp_Desk_orderAt (F : cc_ok h) (O : cc_ord h now accs auts OR ords b cap) {x : Int32} (hq : Q (some (va_rf ords[sg_ix x]?)) h) : cd_W X m_Desk_orderAt kc ks 0 [some (.ref 64), some (.int x)] [] h Q := by
  obtain ⟨a1, a2, a3, a4, a5⟩ := O
  refine g_Desk_orderAt F ⟨fun hx => ?_, fun hx => sp_AL_size a2 ⟨_, rfl, F, ?_⟩⟩
  · rw [sg_ix_neg hx (by omega)] at hq
    exact hq
  · obtain ⟨j, hj, rfl⟩ := nI_of hx
    rw [sg_ix_nI hj] at hq
    rw [nI_leI (by omega) hj]
    refine ⟨fun t => ?_, fun t => ?_⟩
    · rw [List.getElem?_eq_none t] at hq
      exact hq
    · have hlt : j < ords.length := by omega
      have e : ords[j]? = some ords[j] := List.getElem?_eq_getElem hlt
      have e2 : OR[j]? = some OR[j] := List.getElem?_eq_getElem (by omega)
      rw [e] at hq
      exact sp_AL_get a2 e ⟨some _, rfl, F, _, rfl, (a5 j _ _ e e2).1.2, hq⟩
theorem sp_Desk_serial (F : cc_ok h) (O : cc_ord h now accs auts OR ords b cap) {x : Int32} (hq : Q (some (.int (sg_ser OR x))) h) : cd_W X m_Desk_serial kc ks 0 [some (.ref 64), some (.int x), none] [] h Q := by
  refine g_Desk_serial F (sp_Desk_orderAt F O ⟨_, rfl, F, fun hn => ?_, fun y hy => ?_⟩)
  · have : OR[sg_ix x]? = none := by
      rw [List.getElem?_eq_none_iff] at hn ⊢
      have := O.2.2.1
      omega
    rw [sg_ser, this] at hq
    exact hq
  · have hlt : sg_ix x < ords.length := (List.getElem?_eq_some_iff.mp hy).1
    have hlt2 : sg_ix x < OR.length := by have := O.2.2.1; omega
    have e2 : OR[sg_ix x]? = some OR[sg_ix x] := List.getElem?_eq_getElem hlt2
    obtain ⟨⟨c1, c2⟩, c3, c4, c5, c6, c7, c8, c9, c10⟩ := O.2.2.2.2 _ _ _ hy e2
    rw [sg_ser, e2] at hq
    refine ⟨c2, ?_⟩
    rw [c9]
    exact hq
end VDO
