abbrev sg_A : Type := Nat × Bool
abbrev sg_U : Type := Nat × (Nat → Nat) × Nat × Nat × Nat × Nat × Nat
abbrev sg_O : Type := Nat × Nat × List Nat × Option Nat
abbrev sg_C : Type := Nat × Nat × Nat × Nat × Option Nat
abbrev sgu_own (u : sg_U) : Nat := u.1
abbrev sgu_N (u : sg_U) : Nat → Nat := u.2.1
abbrev sgu_len (u : sg_U) : Nat := u.2.2.1
abbrev sgu_made (u : sg_U) : Nat := u.2.2.2.1
abbrev sgu_dec (u : sg_U) : Nat := u.2.2.2.2.1
abbrev sgu_since (u : sg_U) : Nat := u.2.2.2.2.2.1
abbrev sgu_tri (u : sg_U) : Nat := u.2.2.2.2.2.2
abbrev sgo_own (o : sg_O) : Nat := o.1
abbrev sgo_made (o : sg_O) : Nat := o.2.1
abbrev sgo_parts (o : sg_O) : List Nat := o.2.2.1
abbrev sgo_cert (o : sg_O) : Option Nat := o.2.2.2
abbrev sgc_ord (c : sg_C) : Nat := c.1
abbrev sgc_key (c : sg_C) : Nat := c.2.1
abbrev sgc_made (c : sg_C) : Nat := c.2.2.1
abbrev sgc_seal (c : sg_C) : Nat := c.2.2.2.1
abbrev sgc_why (c : sg_C) : Option Nat := c.2.2.2.2
def sg_ix (x : Int32) : Nat := if x < 0 then 2 ^ 31 else x.toNatClampNeg
theorem sg_ix_nI {j : Nat} (h : j < 2 ^ 31) : sg_ix (nI j) = j := by rw [sg_ix, if_neg (nI_pos h), nI_clamp h]
theorem sg_ix_neg {α : Type} {l : List α} {x : Int32} (h : x < 0) (hl : l.length ≤ 1000) : l[sg_ix x]? = none := by
  rw [sg_ix, if_pos h]
  exact List.getElem?_eq_none (by omega)
def sg_cl (AC : List sg_A) (i : Nat) : Bool := match AC[i]? with
  | none => false
  | some a => a.2
def sg_st (AC : List sg_A) (life now : Nat) (u : sg_U) : Nat := if sg_cl AC (sgu_own u) = true ∨ sgu_dec u = 2 then 3 else if life ≤ now - (if sgu_dec u = 1 then sgu_since u else sgu_made u) then 4 else if sgu_dec u = 1 then 2 else if 0 < sgu_tri u then 1 else 0
def cm_clk (h : cd_H) (life now : Nat) : Prop := life ≤ 9 ∧ now ≤ 1000 ∧ cd_i h 82 0 = nI life ∧ cd_i h 82 9 = nI now
def cm_acc (h : cd_H) (AC : List sg_A) : Prop := AC.length ≤ 4 ∧ cd_i h 82 14 = nI AC.length ∧ (∀ i a, AC[i]? = some a → cd_i h 90 i = nI a.1 ∧ a.1 < 4 ∧ cd_i h 91 i = if a.2 then 1 else 0) ∧ ∀ i, AC.length ≤ i → i < 4 → cd_i h 91 i = 0
def cm_aut (h : cd_H) (now : Nat) (AC : List sg_A) (AU : List sg_U) : Prop := AU.length ≤ 24 ∧ cd_i h 82 23 = nI AU.length ∧ (∀ i u, AU[i]? = some u → sgu_own u < AC.length ∧ cd_i h 97 i = nI (sgu_own u) ∧ cm_nam h i (sgu_N u) (sgu_len u) ∧ cd_i h 100 i = nI (sgu_made u) ∧ cd_i h 101 i = nI (sgu_dec u) ∧ (sgu_dec u = 1 → cd_i h 102 i = nI (sgu_since u)) ∧ cd_i h 103 i = nI (sgu_tri u) ∧ sgu_dec u ≤ 2 ∧ sgu_tri u ≤ 2 ∧ sgu_made u ≤ now ∧ sgu_since u ≤ now) ∧ ∀ i, AU.length ≤ i → i < 24 → cd_i h 101 i = 0 ∧ cd_i h 103 i = 0
def cm_ord (h : cd_H) (now : Nat) (AC : List sg_A) (AU : List sg_U) (OR : List sg_O) : Prop := OR.length ≤ 12 ∧ cd_i h 82 17 = nI OR.length ∧ ∀ i o, OR[i]? = some o → sgo_own o < AC.length ∧ cd_i h 92 i = nI (sgo_own o) ∧ cd_i h 93 i = nI (sgo_made o) ∧ sgo_made o ≤ now ∧ (sgo_parts o).length ≤ 3 ∧ cd_i h 94 i = nI (sgo_parts o).length ∧ (∀ k p, (sgo_parts o)[k]? = some p → cd_i h 95 (3 * i + k) = nI p ∧ p < AU.length) ∧ cd_i h 96 i = cd_op (sgo_cert o) ∧ ∀ c, sgo_cert o = some c → c < 12
def cm_cer (h : cd_H) (now : Nat) (OR : List sg_O) (CE : List sg_C) : Prop := CE.length ≤ 12 ∧ cd_i h 82 31 = nI CE.length ∧ ∀ i c, CE[i]? = some c → cd_i h 104 i = nI (sgc_ord c) ∧ sgc_ord c < OR.length ∧ cd_i h 105 i = nI (sgc_key c) ∧ sgc_key c < 10 ^ 9 ∧ cd_i h 106 i = nI (sgc_made c) ∧ sgc_made c ≤ now ∧ cd_i h 107 i = nI (sgc_seal c) ∧ sgc_seal c < 2 ^ 31 ∧ cd_i h 108 i = cd_op (sgc_why c) ∧ ∀ w, sgc_why c = some w → w ≤ 10
section VST
variable {X : cd_E} {kc ks : Nat} {h : cd_H} {Q : Option Value → cd_H → Prop} {life now : Nat} {AC : List sg_A} {AU : List sg_U} {OR : List sg_O} {CE : List sg_C}
theorem sg_cl_of {i : Nat} {a : sg_A} (e : AC[i]? = some a) : sg_cl AC i = a.2 := by rw [sg_cl, e]
theorem cm_cl (A : cm_acc h AC) {i : Nat} (hi : i < AC.length) : cd_i h 91 i = if sg_cl AC i then 1 else 0 := by
  have e : AC[i]? = some AC[i] := List.getElem?_eq_getElem hi
  rw [sg_cl_of e]
  exact (A.2.2.1 i _ e).2.2
def sg_acc (AC : List sg_A) (x : Int32) : Int32 := match AC[sg_ix x]? with
  | none => -1
  | some a => nI (a.1 + if a.2 then 8 else 0)
theorem sp_Mod_account (F : cm_ok h) (A : cm_acc h AC) {x : Int32} (hq : Q (some (.int (sg_acc AC x))) h) : cd_W X m_Mod_account kc ks 0 [some (.ref 82), some (.int x)] [] h Q := by
  have a1 := A.1
  refine g_Mod_account F ⟨fun hx => ?_, fun hx => ?_⟩
  · rw [sg_acc, sg_ix_neg hx (by omega)] at hq
    exact hq
  · obtain ⟨j, hj, rfl⟩ := nI_of hx
    rw [sg_acc, sg_ix_nI hj] at hq
    rw [A.2.1, nI_ltI hj (by omega)]
    refine ⟨fun hlt => ⟨vp_in_nI (by omega) (by decide), ?_⟩, fun hge => ?_⟩
    · have e : AC[j]? = some AC[j] := List.getElem?_eq_getElem hlt
      obtain ⟨b1, b2, b3⟩ := A.2.2.1 j _ e
      rw [e] at hq
      simp only at hq
      rw [nI_clamp hj, b3, b1]
      cases hc : (AC[j]).2 with
      | false =>
        rw [hc] at hq
        refine ⟨fun _ => ?_, fun z => absurd rfl z⟩
        rw [show (0 : Int32) = nI 0 by decide, nI_add]
        exact hq
      | true =>
        rw [hc] at hq
        refine ⟨fun z => absurd z (by decide), fun _ => ?_⟩
        rw [show (8 : Int32) = nI 8 by decide, nI_add]
        exact hq
    · rw [List.getElem?_eq_none (by omega)] at hq
      exact hq
def sg_sta (AC : List sg_A) (life now : Nat) (AU : List sg_U) (x : Int32) : Int32 := match AU[sg_ix x]? with
  | none => -1
  | some u => nI (sg_st AC life now u)
theorem sp_Mod_state (F : cm_ok h) (K : cm_clk h life now) (A : cm_acc h AC) (U : cm_aut h now AC AU) {x : Int32} (hq : Q (some (.int (sg_sta AC life now AU x))) h) : cd_W X m_Mod_state kc ks 0 [some (.ref 82), some (.int x), none, none] [] h Q := by
  have a1 := A.1
  obtain ⟨k1, k2, k3, k4⟩ := K
  refine g_Mod_state F ⟨fun hx => ?_, fun hx => ?_⟩
  · rw [sg_sta, sg_ix_neg hx (by have := U.1; omega)] at hq
    exact hq
  · obtain ⟨j, hj, rfl⟩ := nI_of hx
    rw [sg_sta, sg_ix_nI hj] at hq
    have u1 := U.1
    rw [U.2.1, nI_ltI hj (by omega)]
    refine ⟨fun hlt => ⟨vp_in_nI (by omega) (by decide), ?_⟩, fun hge => ?_⟩
    · have e : AU[j]? = some AU[j] := List.getElem?_eq_getElem hlt
      obtain ⟨b1, b2, b3, b4, b5, b6, b7, b8, b9, b10, b11⟩ := U.2.2.1 j _ e
      rw [e] at hq
      simp only at hq
      rw [nI_clamp hj, b2, nI_clamp (by omega), cm_cl A b1, b5, b7, b4, k3, k4, show (2 : Int32) = nI 2 by decide, nI_eq (by omega) (by decide), show (1 : Int32) = nI 1 by decide, nI_eq (by omega) (by decide), pk_sub (by omega), nI_ltI (by omega) (by omega)]
      refine ⟨vp_in_nI (by omega) (by decide), fun t => ?_, fun t => ⟨fun t2 => ⟨fun t3 => ⟨fun t4 => ⟨fun t5 => ?_, fun t5 => ?_⟩, fun t4 => ?_⟩, fun t3 => ?_⟩, fun t2 => ?_⟩⟩
      · have hc : sg_cl AC (sgu_own AU[j]) = true := by
          cases hc : sg_cl AC (sgu_own AU[j]) with
          | true => rfl
          | false => rw [hc] at t; exact absurd rfl t
        rw [sg_st, if_pos (Or.inl hc)] at hq
        exact hq
      all_goals
        have hc : ¬ sg_cl AC (sgu_own AU[j]) = true := by
          intro hc
          rw [hc] at t
          exact absurd t (by decide)
      · rw [show (0 : Int32) = nI 0 by decide, nI_leI (by omega) (by decide)] at t5
        rw [sg_st, if_neg (by rintro (z | z); exact hc z; exact t2 z), if_neg t3, if_neg (by omega), if_neg t3, if_neg (by omega)] at hq
        exact hq
      · rw [show (0 : Int32) = nI 0 by decide, nI_leI (by omega) (by decide)] at t5
        rw [sg_st, if_neg (by rintro (z | z); exact hc z; exact t2 z), if_neg t3, if_neg (by omega), if_neg t3, if_pos (by omega)] at hq
        exact hq
      · rw [sg_st, if_neg (by rintro (z | z); exact hc z; exact t2 z), if_neg t3, if_pos (by omega)] at hq
        exact hq
      · rw [b6 t3, pk_sub (by omega), nI_ltI (by omega) (by omega)]
        rw [sg_st, if_neg (by rintro (z | z); exact hc z; exact t2 z), if_pos t3] at hq
        refine ⟨fun t4 => ?_, fun t4 => ?_⟩
        · rw [if_neg (by omega), if_pos t3] at hq
          exact hq
        · rw [if_pos (by omega)] at hq
          exact hq
      · rw [sg_st, if_pos (Or.inr t2)] at hq
        exact hq
    · rw [List.getElem?_eq_none (by omega)] at hq
      exact hq
def sg_ser (OR : List sg_O) (x : Int32) : Int32 := match OR[sg_ix x]? with
  | none => -1
  | some o => cd_op (sgo_cert o)
theorem sp_Mod_serial (F : cm_ok h) (O : cm_ord h now AC AU OR) {x : Int32} (hq : Q (some (.int (sg_ser OR x))) h) : cd_W X m_Mod_serial kc ks 0 [some (.ref 82), some (.int x)] [] h Q := by
  have o1 := O.1
  refine g_Mod_serial F ⟨fun hx => ?_, fun hx => ?_⟩
  · rw [sg_ser, sg_ix_neg hx (by omega)] at hq
    exact hq
  · obtain ⟨j, hj, rfl⟩ := nI_of hx
    rw [sg_ser, sg_ix_nI hj] at hq
    rw [O.2.1, nI_ltI hj (by omega)]
    refine ⟨fun hlt => ⟨vp_in_nI (by omega) (by decide), ?_⟩, fun hge => ?_⟩
    · have e : OR[j]? = some OR[j] := List.getElem?_eq_getElem hlt
      rw [e] at hq
      rw [nI_clamp hj, (O.2.2 j _ e).2.2.2.2.2.2.2.1]
      exact hq
    · rw [List.getElem?_eq_none (by omega)] at hq
      exact hq
def sg_std (now : Nat) (CE : List sg_C) (x : Int32) : Int32 := match CE[sg_ix x]? with
  | none => -1
  | some c => match sgc_why c with
    | some w => nI (100 + w)
    | none => if now - sgc_made c < 20 then 0 else 1
theorem sp_Mod_standing (F : cm_ok h) (K : cm_clk h life now) (C : cm_cer h now OR CE) {x : Int32} (hq : Q (some (.int (sg_std now CE x))) h) : cd_W X m_Mod_standing kc ks 0 [some (.ref 82), some (.int x)] [] h Q := by
  have c1 := C.1
  obtain ⟨k1, k2, k3, k4⟩ := K
  refine g_Mod_standing F ⟨fun hx => ?_, fun hx => ?_⟩
  · rw [sg_std, sg_ix_neg hx (by omega)] at hq
    exact hq
  · obtain ⟨j, hj, rfl⟩ := nI_of hx
    rw [sg_std, sg_ix_nI hj] at hq
    rw [C.2.1, nI_ltI hj (by omega)]
    refine ⟨fun hlt => ⟨vp_in_nI (by omega) (by decide), ?_⟩, fun hge => ?_⟩
    · have e : CE[j]? = some CE[j] := List.getElem?_eq_getElem hlt
      obtain ⟨b1, b2, b3, b4, b5, b6, b7, b8, b9, b10⟩ := C.2.2 j _ e
      rw [e] at hq
      simp only at hq
      rw [nI_clamp hj, b9, b5, k4, pk_sub (by omega), show (20 : Int32) = nI 20 by decide, nI_ltI (by omega) (by decide)]
      cases hw : sgc_why CE[j] with
      | none =>
        rw [hw] at hq
        simp only at hq
        refine ⟨fun _ => ⟨fun t => ?_, fun t => ?_⟩, fun z => absurd cd_op_neg z⟩
        · rw [if_pos t] at hq; exact hq
        · rw [if_neg t] at hq; exact hq
      | some w =>
        have hwl := b10 w hw
        rw [hw] at hq
        simp only at hq
        refine ⟨fun z => absurd z (cd_op_pos (by omega)), fun _ => ?_⟩
        show Q (some (.int (100 + nI w))) h
        rw [show (100 : Int32) = nI 100 by decide, nI_add]
        exact hq
    · rw [List.getElem?_eq_none (by omega)] at hq
      exact hq
end VST
