section VDR
variable {X : cd_E} {kc ks : Nat} {h : cd_H} {Q : Option Value → cd_H → Prop} {life now : Nat} {AC : List sg_A} {AU : List sg_U} {OR : List sg_O} {accs auts ords : List Nat} {b cap b2 cap2 b3 cap3 : Nat}
theorem sp_Desk_orderState_34 (F : cc_ok h) (K : cc_clk h life now) (A : cc_acc h AC accs b cap) (U : cc_aut h now accs AU auts b2 cap2) {y pl pb pcap : Nat} {ps : List Nat} (hy : cd_k h y = some (.inl 8)) (hr : cd_r h y 2 = some pl) (L : cc_lst h pl (sg_pc auts ps) pb pcap) (hp : ∀ p, p ∈ ps → p < auts.length) (h3 : ps.length ≤ 3) : ∀ (rest : List Nat) (k : Nat) (al : Bool), ps.drop k = rest → k ≤ 3 → Q (some (.int (nI (if (rest.map (sg_sp AC life now AU)).any sg_fL = true then 3 else if (al && (rest.map (sg_sp AC life now AU)).all sg_fA) = true then 1 else 0)))) h → cd_W X m_Desk_orderState kc ks 34 [some (.ref 64), some (.ref y), some (.int (b2i al)), some (.int (nI k)), none] [] h Q := by
  have hlen : (sg_pc auts ps).length = ps.length := List.length_map _
  intro rest
  induction rest with
  | nil =>
    intro k al hd hk hq
    have hl : ps.length ≤ k := List.drop_eq_nil_iff.mp hd
    refine g_Desk_orderState_34 F ⟨hy, pl, hr, L.2.1, sp_AL_size L ⟨_, rfl, F, fun _ => ⟨fun t => ?_, fun t => ?_⟩, fun t => absurd (nI_le (by omega) (by omega)) t⟩⟩
    · cases al with
      | true => exact absurd t (by decide)
      | false => exact hq
    · cases al with
      | false => exact absurd rfl t
      | true => exact hq
  | cons p rest ih =>
    intro k al hd hk hq
    have hkl : k < ps.length := by
      by_cases z : k < ps.length
      · exact z
      · rw [List.drop_eq_nil_iff.mpr (by omega)] at hd; cases hd
    have hpk : ps[k]? = some p := by
      rw [List.drop_eq_getElem_cons hkl] at hd
      rw [List.getElem?_eq_getElem hkl]
      exact congrArg some (List.cons.inj hd).1
    have hd2 : ps.drop (k + 1) = rest := by
      rw [List.drop_eq_getElem_cons hkl] at hd
      exact (List.cons.inj hd).2
    have hpl := hp p (List.mem_of_getElem? hpk)
    have u3 := U.2.2.1
    have ea : auts[p]? = some auts[p] := List.getElem?_eq_getElem hpl
    have hpu : p < AU.length := by omega
    have eu : AU[p]? = some AU[p] := List.getElem?_eq_getElem hpu
    have ec : (sg_pc auts ps)[k]? = some auts[p] := by
      unfold sg_pc
      rw [List.getElem?_map, hpk]
      show some (auts.getD p 0) = _
      rw [List.getD_eq_getElem?_getD, ea]
      rfl
    have est : sg_sp AC life now AU p = sg_st AC life now AU[p] := by rw [sg_sp, eu]
    have hle := sg_st_le AC life now AU[p]
    have leaf : ∀ al' : Bool, al' = (al && sg_fA (sg_st AC life now AU[p])) → sg_fL (sg_st AC life now AU[p]) = false → cd_W X m_Desk_orderState kc ks 34 [some (.ref 64), some (.ref y), some (.int (b2i al')), some (.int (nI k + 1)), none] [] h Q := by
      intro al' e1 e2
      rw [nI_1]
      refine ih (k + 1) al' hd2 (by omega) ?_
      rw [List.map_cons, List.any_cons, List.all_cons, est, e2, Bool.false_or, ← Bool.and_assoc, ← e1] at hq
      exact hq
    have lost : sg_fL (sg_st AC life now AU[p]) = true → Q (some (.int 3)) h := by
      intro e
      rw [List.map_cons, List.any_cons, est, e, Bool.true_or, if_pos rfl] at hq
      exact hq
    refine g_Desk_orderState_34 F ⟨hy, pl, hr, L.2.1, sp_AL_size L ⟨_, rfl, F, fun t => ?_, fun _ => ⟨hy, pl, hr, L.2.1, sp_AL_get L ec ⟨some _, rfl, F, _, rfl, (U.2.2.2.2 p _ _ ea eu).1.2.1, sp_Desk_authorizationState F K A U ea eu ⟨_, rfl, F, ?_⟩⟩⟩⟩⟩
    · rw [nI_leI (by omega) (by omega)] at t
      omega
    · rw [show (2 : Int32) = nI 2 by decide, show (3 : Int32) = nI 3 by decide, show (4 : Int32) = nI 4 by decide, nI_eq (by omega) (by decide), nI_eq (by omega) (by decide), nI_eq (by omega) (by decide)]
      rw [← show (3 : Int32) = nI 3 by decide]
      generalize sg_st AC life now AU[p] = st at leaf lost hle
      refine ⟨fun t => lost (by subst t; rfl), fun t => ⟨fun t4 => ⟨fun t2 => ?_, fun t2 => ⟨fun t5 => ?_, fun t5 => ?_⟩⟩, fun t4 => lost (by subst t4; rfl)⟩⟩
      · cases al with
        | true => exact absurd t2 (by decide)
        | false => exact leaf false rfl (by simp [sg_fL, t, t4])
      · exact leaf false (by simp [sg_fA, t5]) (by simp [sg_fL, t, t4])
      · cases al with
        | false => exact absurd rfl t2
        | true => exact leaf true (by subst t5; rfl) (by simp [sg_fL, t, t4])
theorem sp_Desk_orderState (F : cc_ok h) (K : cc_clk h life now) (A : cc_acc h AC accs b cap) (U : cc_aut h now accs AU auts b2 cap2) (O : cc_ord h now accs auts OR ords b3 cap3) {i y : Nat} {o : sg_O} (hy : ords[i]? = some y) (ho : OR[i]? = some o) (hq : Q (some (.int (nI (sg_os AC life now AU o)))) h) : cd_W X m_Desk_orderState kc ks 0 [some (.ref 64), some (.ref y), none, none, none] [] h Q := by
  have K' := K
  obtain ⟨k1, k2, k3, k4⟩ := K
  obtain ⟨⟨c1, c2⟩, c3, c4, c5, c6, c7, ⟨pl, pb, pcap, c8, c8b, c8c⟩, c9, c10⟩ := O.2.2.2.2 _ _ _ hy ho
  rw [sg_os] at hq
  refine g_Desk_orderState F ⟨c2, ?_⟩
  rw [c9, c4, k3, k4, pk_sub (by omega), show (2 : Int32) = nI 2 by decide, pk_mul, nI_ltI (by omega) (by omega)]
  cases hc : sgo_cert o with
  | none =>
    rw [hc] at hq
    simp only at hq
    refine ⟨fun _ => ⟨fun t => ?_, fun t => ?_⟩, fun t => absurd rfl t⟩
    · refine sp_Desk_orderState_34 F K' A U c2 c8 c8c c7 c6 (sgo_parts o) 0 true rfl (by decide) ?_
      rw [show decide (2 * life ≤ now - sgo_made o) = false from decide_eq_false (by omega), Bool.false_or] at hq
      rw [Bool.true_and]
      exact hq
    · rw [show decide (2 * life ≤ now - sgo_made o) = true from decide_eq_true (by omega), Bool.true_or, if_pos rfl] at hq
      exact hq
  | some c =>
    rw [hc] at hq
    have hcl := c10 c hc
    refine ⟨fun t => ?_, fun _ => hq⟩
    have := cd_op_pos (q := c) (by omega)
    rw [t] at this
    exact absurd (by decide) this
theorem sp_Desk_order (F : cc_ok h) (K : cc_clk h life now) (A : cc_acc h AC accs b cap) (U : cc_aut h now accs AU auts b2 cap2) (O : cc_ord h now accs auts OR ords b3 cap3) {x : Int32} (hq : Q (some (.int (sg_ost AC life now AU OR x))) h) : cd_W X m_Desk_order kc ks 0 [some (.ref 64), some (.int x), none] [] h Q := by
  refine g_Desk_order F (sp_Desk_orderAt F O ⟨_, rfl, F, fun hn => ?_, fun y hy => ?_⟩)
  · have : OR[sg_ix x]? = none := by
      rw [List.getElem?_eq_none_iff] at hn ⊢
      have := O.2.2.1
      omega
    rw [sg_ost, this] at hq
    exact hq
  · have hlt : sg_ix x < ords.length := (List.getElem?_eq_some_iff.mp hy).1
    have hlt2 : sg_ix x < OR.length := by have := O.2.2.1; omega
    have e2 : OR[sg_ix x]? = some OR[sg_ix x] := List.getElem?_eq_getElem hlt2
    rw [sg_ost, e2] at hq
    exact sp_Desk_orderState F K A U O hy e2 ⟨_, rfl, F, hq⟩
end VDR
