def b2i (b : Bool) : Int32 := if b then 1 else 0
def sg_fL (s : Nat) : Bool := decide (s = 3) || decide (s = 4)
def sg_fA (s : Nat) : Bool := decide (s = 2)
def sg_sp (AC : List sg_A) (life now : Nat) (AU : List sg_U) (p : Nat) : Nat := match AU[p]? with
  | none => 9
  | some u => sg_st AC life now u
def sg_os (AC : List sg_A) (life now : Nat) (AU : List sg_U) (o : sg_O) : Nat := match sgo_cert o with
  | some _ => 2
  | none => if (decide (2 * life ≤ now - sgo_made o) || ((sgo_parts o).map (sg_sp AC life now AU)).any sg_fL) = true then 3 else if ((sgo_parts o).map (sg_sp AC life now AU)).all sg_fA = true then 1 else 0
def sg_ost (AC : List sg_A) (life now : Nat) (AU : List sg_U) (OR : List sg_O) (x : Int32) : Int32 := match OR[sg_ix x]? with
  | none => -1
  | some o => nI (sg_os AC life now AU o)
theorem sg_st_le (AC : List sg_A) (life now : Nat) (u : sg_U) : sg_st AC life now u ≤ 4 := by
  rw [sg_st]
  repeat' split
  all_goals omega
section VMO
variable {X : cd_E} {kc ks : Nat} {h : cd_H} {Q : Option Value → cd_H → Prop} {life now : Nat} {AC : List sg_A} {AU : List sg_U} {OR : List sg_O} {CE : List sg_C}
theorem sp_Mod_order_56 (F : cm_ok h) (K : cm_clk h life now) (A : cm_acc h AC) (U : cm_aut h now AC AU) (O : cm_ord h now AC AU OR) {i : Nat} {o : sg_O} (hi : OR[i]? = some o) : ∀ (rest : List Nat) (k : Nat) (lo al : Bool), (sgo_parts o).drop k = rest → k ≤ 3 → Q (some (.int (nI (if (lo || (rest.map (sg_sp AC life now AU)).any sg_fL) = true then 3 else if (al && (rest.map (sg_sp AC life now AU)).all sg_fA) = true then 1 else 0)))) h → cd_W X m_Mod_order kc ks 56 [some (.ref 82), some (.int (nI i)), some (.int (b2i lo)), some (.int (b2i al)), some (.int (nI k)), none] [] h Q := by
  have o1 := O.1
  have hil : i < OR.length := (List.getElem?_eq_some_iff.mp hi).1
  obtain ⟨b1, b2, b3, b4, b5, b6, b7, b8, b9⟩ := O.2.2 i o hi
  intro rest
  induction rest with
  | nil =>
    intro k lo al hd hk hq
    have hlen : (sgo_parts o).length ≤ k := List.drop_eq_nil_iff.mp hd
    refine g_Mod_order_56 F ⟨vp_in_nI (by omega) (by decide), ?_⟩
    rw [nI_clamp (by omega), b6, nI_leI (by omega) (by omega)]
    refine ⟨fun _ => ⟨fun t => ⟨fun t2 => ?_, fun t2 => ?_⟩, fun t => ?_⟩, fun z => absurd hlen z⟩
    · cases lo <;> cases al <;> first | exact absurd t (by decide) | exact absurd t2 (by decide) | exact hq
    · cases lo <;> cases al <;> first | exact absurd t (by decide) | exact absurd rfl t2 | exact hq
    · cases lo <;> first | exact absurd rfl t | exact hq
  | cons p rest ih =>
    intro k lo al hd hk hq
    have hkl : k < (sgo_parts o).length := by
      by_cases z : k < (sgo_parts o).length
      · exact z
      · rw [List.drop_eq_nil_iff.mpr (by omega)] at hd; cases hd
    have hp : (sgo_parts o)[k]? = some p := by
      rw [List.drop_eq_getElem_cons hkl] at hd
      rw [List.getElem?_eq_getElem hkl]
      exact congrArg some (List.cons.inj hd).1
    have hd2 : (sgo_parts o).drop (k + 1) = rest := by
      rw [List.drop_eq_getElem_cons hkl] at hd
      exact (List.cons.inj hd).2
    obtain ⟨c1, c2⟩ := b7 k p hp
    have eu : AU[p]? = some AU[p] := List.getElem?_eq_getElem c2
    have u1 := U.1
    have est : sg_sta AC life now AU (nI p) = nI (sg_sp AC life now AU p) := by
      rw [sg_sta, sg_ix_nI (by omega), sg_sp, eu]
    have hle : sg_sp AC life now AU p ≤ 4 := by
      rw [sg_sp, eu]
      exact sg_st_le _ _ _ _
    have leaf : ∀ lo' al' : Bool, lo' = (lo || sg_fL (sg_sp AC life now AU p)) → al' = (al && sg_fA (sg_sp AC life now AU p)) → cd_W X m_Mod_order kc ks 56 [some (.ref 82), some (.int (nI i)), some (.int (b2i lo')), some (.int (b2i al')), some (.int (nI k + 1)), none] [] h Q := by
      intro lo' al' e1 e2
      rw [nI_1]
      refine ih (k + 1) lo' al' hd2 (by omega) ?_
      rw [e1, e2, Bool.or_assoc, Bool.and_assoc]
      exact hq
    refine g_Mod_order_56 F ⟨vp_in_nI (by omega) (by decide), ?_⟩
    have e3 : (3 : Int32) * nI i + nI k = nI (3 * i + k) := by rw [show (3 : Int32) = nI 3 by decide, pk_mul, nI_add]
    rw [nI_clamp (by omega), b6, nI_leI (by omega) (by omega), e3]
    refine ⟨fun z => by omega, fun _ => ⟨vp_in_nI (by omega) (by decide), ?_⟩⟩
    rw [nI_clamp (by omega), c1]
    refine sp_Mod_state F K A U ⟨_, rfl, F, ?_⟩
    rw [est, show (2 : Int32) = nI 2 by decide, show (3 : Int32) = nI 3 by decide, show (4 : Int32) = nI 4 by decide, nI_eq (by omega) (by decide), nI_eq (by omega) (by decide), nI_eq (by omega) (by decide)]
    generalize sg_sp AC life now AU p = st at leaf hle
    have L := leaf
    cases lo <;> cases al
    · refine ⟨fun t => absurd rfl t, fun _ => ⟨fun t => ⟨fun _ => L true false (by subst t; rfl) (by subst t; rfl), fun z => absurd rfl z⟩, fun t => ⟨fun t4 => ⟨fun _ => L false false (by simp [sg_fL, t, t4]) rfl, fun z => absurd rfl z⟩, fun t4 => ⟨fun _ => L true false (by subst t4; rfl) rfl, fun z => absurd rfl z⟩⟩⟩⟩
    · refine ⟨fun t => absurd rfl t, fun _ => ⟨fun t => ⟨fun z => absurd z (by decide), fun _ => ⟨fun _ => L true false (by subst t; rfl) (by subst t; rfl), fun z => by omega⟩⟩, fun t => ⟨fun t4 => ⟨fun z => absurd z (by decide), fun _ => ⟨fun t5 => L false false (by simp [sg_fL, t, t4]) (by simp [sg_fA, t5]), fun t5 => L false true (by subst t5; rfl) (by subst t5; rfl)⟩⟩, fun t4 => ⟨fun z => absurd z (by decide), fun _ => ⟨fun _ => L true false (by subst t4; rfl) (by subst t4; rfl), fun z => by omega⟩⟩⟩⟩⟩
    · refine ⟨fun _ => ⟨fun _ => L true false rfl rfl, fun z => absurd rfl z⟩, fun z => absurd z (by decide)⟩
    · refine ⟨fun _ => ⟨fun z => absurd z (by decide), fun _ => ⟨fun t5 => L true false rfl (by simp [sg_fA, t5]), fun t5 => L true true rfl (by subst t5; rfl)⟩⟩, fun z => absurd z (by decide)⟩
theorem sp_Mod_order (F : cm_ok h) (K : cm_clk h life now) (A : cm_acc h AC) (U : cm_aut h now AC AU) (O : cm_ord h now AC AU OR) {x : Int32} (hq : Q (some (.int (sg_ost AC life now AU OR x))) h) : cd_W X m_Mod_order kc ks 0 [some (.ref 82), some (.int x), none, none, none, none] [] h Q := by
  have o1 := O.1
  obtain ⟨k1, k2, k3, k4⟩ := K
  refine g_Mod_order F ⟨fun hx => ?_, fun hx => ?_⟩
  · rw [sg_ost, sg_ix_neg hx (by omega)] at hq
    exact hq
  · obtain ⟨j, hj, rfl⟩ := nI_of hx
    rw [sg_ost, sg_ix_nI hj] at hq
    rw [O.2.1, nI_ltI hj (by omega)]
    refine ⟨fun hlt => ⟨vp_in_nI (by omega) (by decide), ?_⟩, fun hge => ?_⟩
    · have e : OR[j]? = some OR[j] := List.getElem?_eq_getElem hlt
      obtain ⟨b1, b2, b3, b4, b5, b6, b7, b8, b9⟩ := O.2.2 j _ e
      rw [e] at hq
      simp only at hq
      rw [sg_os] at hq
      rw [nI_clamp hj, b8, b3, k3, k4, pk_sub (by omega), show (2 : Int32) = nI 2 by decide, pk_mul, nI_ltI (by omega) (by omega)]
      cases hc : sgo_cert OR[j] with
      | none =>
        rw [hc] at hq
        simp only at hq
        refine ⟨fun _ => ⟨fun t => ?_, fun t => ?_⟩, fun z => absurd cd_op_neg z⟩
        · refine sp_Mod_order_56 F ⟨k1, k2, k3, k4⟩ A U O e (sgo_parts OR[j]) 0 false true rfl (by decide) ?_
          rw [show decide (2 * life ≤ now - sgo_made OR[j]) = false from decide_eq_false (by omega)] at hq
          exact hq
        · refine sp_Mod_order_56 F ⟨k1, k2, k3, k4⟩ A U O e (sgo_parts OR[j]) 0 true true rfl (by decide) ?_
          rw [show decide (2 * life ≤ now - sgo_made OR[j]) = true from decide_eq_true (by omega)] at hq
          exact hq
      | some c =>
        rw [hc] at hq
        have := b9 c hc
        exact ⟨fun z => absurd z (cd_op_pos (by omega)), fun _ => hq⟩
    · rw [List.getElem?_eq_none (by omega)] at hq
      exact hq
end VMO
