def sg_auo (OR : List sg_O) (x k : Int32) : Int32 := match OR[sg_ix x]? with
  | none => -1
  | some o => match (sgo_parts o)[sg_ix k]? with
    | none => -1
    | some p => nI p
section VAU
variable {X : cd_E} {kc ks : Nat} {h : cd_H} {Q : Option Value → cd_H → Prop} {life now : Nat} {AC : List sg_A} {AU : List sg_U} {OR : List sg_O} {accs auts ords : List Nat} {b cap b2 cap2 b3 cap3 : Nat}
theorem sp_Mod_authorization (F : cm_ok h) (O : cm_ord h now AC AU OR) {x k : Int32} (hq : Q (some (.int (sg_auo OR x k))) h) : cd_W X m_Mod_authorization kc ks 0 [some (.ref 82), some (.int x), some (.int k)] [] h Q := by
  have o1 := O.1
  refine g_Mod_authorization F ⟨fun hx => ?_, fun hx => ?_⟩
  · rw [sg_auo, sg_ix_neg hx (by omega)] at hq
    exact hq
  · obtain ⟨j, hj, rfl⟩ := nI_of hx
    rw [sg_auo, sg_ix_nI hj] at hq
    rw [O.2.1, nI_leI (by omega) hj]
    refine ⟨fun hge => ?_, fun hlt => ?_⟩
    · rw [List.getElem?_eq_none hge] at hq
      exact hq
    · have hlt : j < OR.length := by omega
      have e : OR[j]? = some OR[j] := List.getElem?_eq_getElem hlt
      obtain ⟨b1, b2, b3, b4, b5, b6, b7, b8, b9⟩ := O.2.2 j _ e
      rw [e] at hq
      simp only at hq
      refine ⟨fun hk => ?_, fun hk => ⟨vp_in_nI (by omega) (by decide), ?_⟩⟩
      · rw [sg_ix_neg hk (by omega)] at hq
        exact hq
      · obtain ⟨i, hi, rfl⟩ := nI_of hk
        rw [sg_ix_nI hi] at hq
        rw [nI_clamp hj, b6, nI_ltI hi (by omega)]
        refine ⟨fun t => ?_, fun t => ?_⟩
        · have ei : (sgo_parts OR[j])[i]? = some (sgo_parts OR[j])[i] := List.getElem?_eq_getElem t
          have e3 : (3 : Int32) * nI j + nI i = nI (3 * j + i) := by rw [show (3 : Int32) = nI 3 by decide, pk_mul, nI_add]
          rw [ei] at hq
          rw [e3, nI_clamp (by omega), (b7 i _ ei).1]
          exact ⟨vp_in_nI (by omega) (by decide), hq⟩
        · rw [List.getElem?_eq_none (by omega)] at hq
          exact hq
theorem sp_Desk_authorization (F : cc_ok h) (U : cc_aut h now accs AU auts b2 cap2) (O : cc_ord h now accs auts OR ords b3 cap3) {x k : Int32} (hq : Q (some (.int (sg_auo OR x k))) h) : cd_W X m_Desk_authorization kc ks 0 [some (.ref 64), some (.int x), some (.int k), none] [] h Q := by
  refine g_Desk_authorization F (sp_Desk_orderAt F O ⟨_, rfl, F, fun hn => ?_, fun y hy => ?_⟩)
  · have : OR[sg_ix x]? = none := by
      rw [List.getElem?_eq_none_iff] at hn ⊢
      have := O.2.2.1
      omega
    rw [sg_auo, this] at hq
    exact hq
  · have hlt : sg_ix x < ords.length := (List.getElem?_eq_some_iff.mp hy).1
    have hlt2 : sg_ix x < OR.length := by have := O.2.2.1; omega
    have e2 : OR[sg_ix x]? = some OR[sg_ix x] := List.getElem?_eq_getElem hlt2
    obtain ⟨⟨c1, c2⟩, c3, c4, c5, c6, c7, ⟨pl, pb, pcap, c8, c8b, c8c⟩, c9, c10⟩ := O.2.2.2.2 _ _ _ hy e2
    have hlen : (sg_pc auts (sgo_parts OR[sg_ix x])).length = (sgo_parts OR[sg_ix x]).length := List.length_map _
    rw [sg_auo, e2] at hq
    simp only at hq
    refine ⟨fun hk => ?_, fun hk => ⟨c2, pl, c8, c8c.2.1, sp_AL_size c8c ⟨_, rfl, F, ?_⟩⟩⟩
    · rw [sg_ix_neg hk (by omega)] at hq
      exact hq
    · obtain ⟨i, hi, rfl⟩ := nI_of hk
      rw [sg_ix_nI hi] at hq
      rw [nI_ltI hi (by omega), hlen]
      refine ⟨fun t => ⟨c2, pl, c8, c8c.2.1, ?_⟩, fun t => ?_⟩
      · have ei : (sgo_parts OR[sg_ix x])[i]? = some (sgo_parts OR[sg_ix x])[i] := List.getElem?_eq_getElem t
        have hpl := c7 _ (List.mem_of_getElem? ei)
        have u3 := U.2.2.1
        have ea : auts[(sgo_parts OR[sg_ix x])[i]]? = some auts[(sgo_parts OR[sg_ix x])[i]] := List.getElem?_eq_getElem hpl
        have hpu : (sgo_parts OR[sg_ix x])[i] < AU.length := by omega
        have eu : AU[(sgo_parts OR[sg_ix x])[i]]? = some AU[(sgo_parts OR[sg_ix x])[i]] := List.getElem?_eq_getElem hpu
        have ec : (sg_pc auts (sgo_parts OR[sg_ix x]))[i]? = some auts[(sgo_parts OR[sg_ix x])[i]] := by
          unfold sg_pc
          rw [List.getElem?_map, ei]
          show some (auts.getD _ 0) = _
          rw [List.getD_eq_getElem?_getD, ea]
          rfl
        obtain ⟨⟨d1, d2, d3⟩, _⟩ := U.2.2.2.2 _ _ _ ea eu
        rw [ei] at hq
        refine sp_AL_get c8c ec ⟨some _, rfl, F, _, rfl, d2, ?_⟩
        rw [d3]
        exact hq
      · rw [List.getElem?_eq_none (by omega)] at hq
        exact hq
end VAU
