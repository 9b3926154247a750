def cc_clk (h : cd_H) (life now : Nat) : Prop := life ≤ 9 ∧ now ≤ 1000 ∧ cd_i h 64 0 = nI life ∧ cd_i h 64 12 = nI now
def cc_keys (h : cd_H) : Prop := ∀ k, k < 4 → cd_i h (66 + k) 0 = nI k
def cc_acc (h : cd_H) (AC : List sg_A) (accs : List Nat) (b cap : Nat) : Prop := AC.length ≤ 4 ∧ cc_lst h 78 accs b cap ∧ accs.length = AC.length ∧ accs.Nodup ∧ ∀ (i x : Nat) (a : sg_A), accs[i]? = some x → AC[i]? = some a → 114 ≤ x ∧ cd_k h x = some (.inl 1) ∧ cd_r h x 0 = some (66 + a.1) ∧ a.1 < 4 ∧ cd_i h x 1 = b2i a.2
def sg_same (u v : sg_U) : Bool := decide (sgu_len u = sgu_len v) && (List.range (sgu_len u)).all (fun j => decide (sgu_N u j = sgu_N v j))
def sg_pl (AU : List sg_U) (u : sg_U) : Nat := AU.findIdx (fun v => sg_same v u)
def sg_dc (d : Nat) : Nat := if d = 0 then 0 else d + 1
def cc_aut (h : cd_H) (now : Nat) (accs : List Nat) (AU : List sg_U) (auts : List Nat) (b cap : Nat) : Prop := AU.length ≤ 24 ∧ cc_lst h 80 auts b cap ∧ auts.length = AU.length ∧ auts.Nodup ∧ ∀ (i x : Nat) (u : sg_U), auts[i]? = some x → AU[i]? = some u → (114 ≤ x ∧ cd_k h x = some (.inl 2) ∧ cd_i h x 0 = nI i) ∧ (∃ y, accs[sgu_own u]? = some y ∧ cd_r h x 1 = some y) ∧ (∃ s sb, cd_r h x 2 = some s ∧ cc_str h s (sgu_N u) (sgu_len u) ∧ 114 ≤ s ∧ cd_r h s 0 = some sb ∧ 114 ≤ sb) ∧ cd_i h x 3 = nI (sgu_made u) ∧ cd_i h x 4 = nI (sg_pl AU u) ∧ cd_i h x 5 = nI (sg_dc (sgu_dec u)) ∧ cd_i h x 6 = nI (sgu_since u) ∧ cd_i h x 7 = (if sgu_tri u = 0 then -1 else nI (sgu_tri u - 1)) ∧ (sgu_dec u ≤ 2 ∧ sgu_tri u ≤ 2 ∧ sgu_made u ≤ now ∧ sgu_since u ≤ now) ∧ (sgu_dec u = 0 → sgu_since u = sgu_made u) ∧ 1 ≤ sgu_len u ∧ sgu_len u ≤ 12
section VDE
variable {X : cd_E} {kc ks : Nat} {h : cd_H} {Q : Option Value → cd_H → Prop} {life now : Nat} {AC : List sg_A} {accs : List Nat} {b cap : Nat}
theorem sp_Desk_accountAt (F : cc_ok h) (A : cc_acc h AC accs b cap) {x : Int32} (hq : Q (some (va_rf accs[sg_ix x]?)) h) : cd_W X m_Desk_accountAt kc ks 0 [some (.ref 64), some (.int x)] [] h Q := by
  obtain ⟨a1, a2, a3, a4, a5⟩ := A
  refine g_Desk_accountAt F ⟨fun hx => ?_, fun hx => sp_AL_size a2 ⟨_, rfl, F, ?_⟩⟩
  · rw [sg_ix_neg hx (by omega)] at hq
    exact hq
  · obtain ⟨j, hj, rfl⟩ := nI_of hx
    rw [sg_ix_nI hj] at hq
    rw [nI_leI (by omega) hj]
    refine ⟨fun t => ?_, fun t => ?_⟩
    · rw [List.getElem?_eq_none t] at hq
      exact hq
    · have hlt : j < accs.length := by omega
      have e : accs[j]? = some accs[j] := List.getElem?_eq_getElem hlt
      have e2 : AC[j]? = some AC[j] := List.getElem?_eq_getElem (by omega)
      rw [e] at hq
      exact sp_AL_get a2 e ⟨some _, rfl, F, _, rfl, (a5 j _ _ e e2).2.1, hq⟩
theorem sp_Desk_account (F : cc_ok h) (K : cc_keys h) (A : cc_acc h AC accs b cap) {x : Int32} (hq : Q (some (.int (sg_acc AC x))) h) : cd_W X m_Desk_account kc ks 0 [some (.ref 64), some (.int x), none] [] h Q := by
  have A' := A
  obtain ⟨a1, a2, a3, a4, a5⟩ := A
  refine g_Desk_account F (sp_Desk_accountAt F A' ⟨_, rfl, F, fun hn => ?_, fun y hy => ?_⟩)
  · have : AC[sg_ix x]? = none := by
      rw [List.getElem?_eq_none_iff] at hn ⊢
      omega
    rw [sg_acc, this] at hq
    exact hq
  · have hlt : sg_ix x < accs.length := (List.getElem?_eq_some_iff.mp hy).1
    have e2 : AC[sg_ix x]? = some AC[sg_ix x] := List.getElem?_eq_getElem (by omega)
    obtain ⟨b1, b2, b3, b4, b5⟩ := a5 _ _ _ hy e2
    have hk : ∀ k, k < 4 → cd_k h (66 + k) = some (.inl 4) := fun k hk => by
      have : k = 0 ∨ k = 1 ∨ k = 2 ∨ k = 3 := by omega
      rcases this with rfl | rfl | rfl | rfl
      · exact cc_k66 F
      · exact cc_k67 F
      · exact cc_k68 F
      · exact cc_k69 F
    rw [sg_acc, e2] at hq
    simp only at hq
    rw [b5]
    refine ⟨b2, fun t => ⟨_, b3, hk _ b4, ?_⟩, fun t => ⟨_, b3, hk _ b4, ?_⟩⟩
    · rw [K _ b4]
      cases hc : (AC[sg_ix x]).2 with
      | true => rw [hc] at t; exact absurd t (by decide)
      | false => rw [hc] at hq; exact hq
    · rw [K _ b4, show (8 : Int32) = nI 8 by decide, nI_add]
      cases hc : (AC[sg_ix x]).2 with
      | false => rw [hc] at t; exact absurd rfl t
      | true => rw [hc] at hq; exact hq
theorem sp_Desk_authorizationAt {AU : List sg_U} {auts : List Nat} {b2 cap2 : Nat} (F : cc_ok h) (U : cc_aut h now accs AU auts b2 cap2) {x : Int32} (hq : Q (some (va_rf auts[sg_ix x]?)) h) : cd_W X m_Desk_authorizationAt kc ks 0 [some (.ref 64), some (.int x)] [] h Q := by
  obtain ⟨a1, a2, a3, a4, a5⟩ := U
  refine g_Desk_authorizationAt F ⟨fun hx => ?_, fun hx => sp_AL_size a2 ⟨_, rfl, F, ?_⟩⟩
  · rw [sg_ix_neg hx (by omega)] at hq
    exact hq
  · obtain ⟨j, hj, rfl⟩ := nI_of hx
    rw [sg_ix_nI hj] at hq
    rw [nI_leI (by omega) hj]
    refine ⟨fun t => ?_, fun t => ?_⟩
    · rw [List.getElem?_eq_none t] at hq
      exact hq
    · have hlt : j < auts.length := by omega
      have e : auts[j]? = some auts[j] := List.getElem?_eq_getElem hlt
      have e2 : AU[j]? = some AU[j] := List.getElem?_eq_getElem (by omega)
      rw [e] at hq
      exact sp_AL_get a2 e ⟨some _, rfl, F, _, rfl, (a5 j _ _ e e2).1.2.1, hq⟩
theorem sp_Desk_authorizationState {AU : List sg_U} {auts : List Nat} {b2 cap2 i y : Nat} {u : sg_U} (F : cc_ok h) (K : cc_clk h life now) (A : cc_acc h AC accs b cap) (U : cc_aut h now accs AU auts b2 cap2) (hy : auts[i]? = some y) (hu : AU[i]? = some u) (hq : Q (some (.int (nI (sg_st AC life now u)))) h) : cd_W X m_Desk_authorizationState kc ks 0 [some (.ref 64), some (.ref y)] [] h Q := by
  obtain ⟨k1, k2, k3, k4⟩ := K
  obtain ⟨⟨c1, c2, c3⟩, ⟨z, c4, c5⟩, c6, c7, c8, c9, c10, c11, ⟨c12, c13, c14, c15⟩, c16, c17⟩ := U.2.2.2.2 i y u hy hu
  have hlt : sgu_own u < accs.length := (List.getElem?_eq_some_iff.mp c4).1
  have hlt2 : sgu_own u < AC.length := by have := A.2.2.1; omega
  have e2 : AC[sgu_own u]? = some AC[sgu_own u] := List.getElem?_eq_getElem hlt2
  obtain ⟨d1, d2, d3, d4, d5⟩ := A.2.2.2.2 _ _ _ c4 e2
  have ecl : sg_cl AC (sgu_own u) = (AC[sgu_own u]).2 := sg_cl_of e2
  have hdc : sg_dc (sgu_dec u) < 2 ^ 31 := by unfold sg_dc; split <;> omega
  refine g_Desk_authorizationState F ⟨c2, z, c5, d2, ?_⟩
  rw [d5, ← ecl, c9, c10, c11, k3, k4, pk_sub (by omega), nI_ltI (by omega) (by omega), show (3 : Int32) = nI 3 by decide, show (2 : Int32) = nI 2 by decide, nI_eq hdc (by decide), nI_eq hdc (by decide)]
  have hd3 : sg_dc (sgu_dec u) = 3 ↔ sgu_dec u = 2 := by unfold sg_dc; split <;> omega
  have hd2 : sg_dc (sgu_dec u) = 2 ↔ sgu_dec u = 1 := by unfold sg_dc; split <;> omega
  rw [hd3, hd2]
  have hcl : ∀ hb : b2i (sg_cl AC (sgu_own u)) = 0, ¬ sg_cl AC (sgu_own u) = true := fun hb hc => by rw [hc] at hb; exact absurd hb (by decide)
  have hage : ¬ sgu_dec u = 2 → (if sgu_dec u = 1 then sgu_since u else sgu_made u) = sgu_since u := fun h2 => by
    by_cases e : sgu_dec u = 1
    · rw [if_pos e]
    · rw [if_neg e, c16 (by omega)]
  refine ⟨fun t => ?_, fun t => ⟨fun t2 => ⟨fun t3 => ⟨fun t4 => ⟨fun t5 => ?_, fun t5 => ?_⟩, fun t4 => ?_⟩, fun t3 => ?_⟩, fun t2 => ?_⟩⟩
  · have hc : sg_cl AC (sgu_own u) = true := by
      cases hc : sg_cl AC (sgu_own u) with
      | true => rfl
      | false => rw [hc] at t; exact absurd rfl t
    rw [sg_st, if_pos (Or.inl hc)] at hq
    exact hq
  · have ht : 0 < sgu_tri u := by
      by_cases e : sgu_tri u = 0
      · rw [if_pos e] at t5; exact absurd rfl t5
      · omega
    rw [sg_st, if_neg (by rintro (w | w); exact hcl t w; exact t2 w), hage t2, if_neg (by omega), if_neg t4, if_pos ht] at hq
    exact hq
  · have ht : ¬ 0 < sgu_tri u := by
      intro hp
      rw [if_neg (by omega)] at t5
      have := nI_pos (n := sgu_tri u - 1) (by omega)
      rw [t5] at this
      exact absurd (by decide) this
    rw [sg_st, if_neg (by rintro (w | w); exact hcl t w; exact t2 w), hage t2, if_neg (by omega), if_neg t4, if_neg ht] at hq
    exact hq
  · rw [sg_st, if_neg (by rintro (w | w); exact hcl t w; exact t2 w), hage t2, if_neg (by omega), if_pos t4] at hq
    exact hq
  · rw [sg_st, if_neg (by rintro (w | w); exact hcl t w; exact t2 w), hage t2, if_pos (by omega)] at hq
    exact hq
  · rw [sg_st, if_pos (Or.inr t2)] at hq
    exact hq
theorem sp_Desk_state {AU : List sg_U} {auts : List Nat} {b2 cap2 : Nat} (F : cc_ok h) (K : cc_clk h life now) (A : cc_acc h AC accs b cap) (U : cc_aut h now accs AU auts b2 cap2) {x : Int32} (hq : Q (some (.int (sg_sta AC life now AU x))) h) : cd_W X m_Desk_state kc ks 0 [some (.ref 64), some (.int x), none] [] h Q := by
  refine g_Desk_state F (sp_Desk_authorizationAt F U ⟨_, rfl, F, fun hn => ?_, fun y hy => ?_⟩)
  · have : AU[sg_ix x]? = none := by
      rw [List.getElem?_eq_none_iff] at hn ⊢
      have := U.2.2.1
      omega
    rw [sg_sta, this] at hq
    exact hq
  · have hlt : sg_ix x < auts.length := (List.getElem?_eq_some_iff.mp hy).1
    have e2 : AU[sg_ix x]? = some (AU[sg_ix x]'(by have := U.2.2.1; omega)) := List.getElem?_eq_getElem (by have := U.2.2.1; omega)
    rw [sg_sta, e2] at hq
    exact sp_Desk_authorizationState F K A U hy e2 ⟨_, rfl, F, hq⟩
end VDE
