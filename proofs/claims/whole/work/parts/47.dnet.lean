section VDN
variable {X : cd_E} {kc ks : Nat} {h : cd_H} {Q : Option Value → cd_H → Prop} {now : Nat} {AC : List sg_A} {AU : List sg_U} {accs auts : List Nat} {b cap : Nat} {NW : Nat → Option Nat}
theorem sp_Desk_isWay (F : cc_ok h) {x : Int32} (h1 : ∀ w, w ≤ 1 → x = nI w → Q (some (.int 1)) h) (h0 : (∀ w, w ≤ 1 → ¬ x = nI w) → Q (some (.int 0)) h) : cd_W X m_Desk_isWay kc ks 0 [some (.int x)] [] h Q :=
  g_Desk_isWay F ⟨fun t => h1 0 (by decide) t, fun t => ⟨fun t2 => h0 (fun w hw e => by
    have : w = 0 ∨ w = 1 := by omega
    rcases this with rfl | rfl
    · exact t e
    · exact t2 e), fun t2 => h1 1 (by decide) t2⟩⟩
theorem sp_Desk_slot (F : cc_ok h) (U : cc_aut h now accs AU auts b cap) {w a y : Nat} {u : sg_U} (hy : auts[a]? = some y) (hu : AU[a]? = some u) (hq : Q (some (.int (nI (24 * w + sg_pl AU u)))) h) : cd_W X m_Desk_slot kc ks 0 [some (.int (nI w)), some (.ref y)] [] h Q := by
  obtain ⟨⟨c1, c2, c3⟩, c4, c6, c7, c8, c9⟩ := U.2.2.2.2 a y u hy hu
  refine g_Desk_slot F ⟨c2, ?_⟩
  rw [c8, show (24 : Int32) = nI 24 by decide, pk_mul, nI_add, Nat.mul_comm]
  exact hq
theorem sp_Desk_withdraw (F : cc_ok h) (U : cc_aut h now accs AU auts b cap) (W : cc_net h NW) {x y : Int32} (h1 : ∀ w a u, sg_spot AU x y w a u → ∀ h', cd_ch (fun z => z = 77) h h' → cd_n h' = cd_n h → cc_ok h' → cc_net h' (fun j => if j = 24 * w + sg_pl AU u then none else NW j) → Q (some (.int (b2i (NW (24 * w + sg_pl AU u)).isSome))) h') (h0 : (∀ w a u, ¬ sg_spot AU x y w a u) → Q (some (.int 0)) h) : cd_W X m_Desk_withdraw kc ks 0 [some (.ref 64), some (.int x), some (.int y), none] [] h Q := by
  have u1 := U.1
  have u3 := U.2.2.1
  refine g_Desk_withdraw F (sp_Desk_authorizationAt F U ⟨_, rfl, F, sp_Desk_isWay F (fun w hw hx => ⟨_, rfl, F, fun t => absurd t (by decide), fun _ => ⟨fun hn => h0 (fun w' a' u' s => ?_), fun z hz => ?_⟩⟩) (fun hx => ⟨_, rfl, F, fun _ => h0 (fun w' a' u' s => hx w' s.1 s.2.1), fun t => absurd rfl t⟩)⟩)
  · obtain ⟨s1, s2, s3, s4⟩ := s
    have hl := (List.getElem?_eq_some_iff.mp s4).1
    rw [s3, sg_ix_nI (by omega), List.getElem?_eq_getElem (by omega)] at hn
    cases hn
  · have hzl : sg_ix y < auts.length := (List.getElem?_eq_some_iff.mp hz).1
    have hal : sg_ix y < AU.length := by omega
    have hu : AU[sg_ix y]? = some AU[sg_ix y] := List.getElem?_eq_getElem hal
    have hyn : y = nI (sg_ix y) := by
      by_cases hneg : y < 0
      · rw [sg_ix, if_pos hneg] at hal
        omega
      · obtain ⟨j, hj, rfl⟩ := nI_of hneg
        rw [sg_ix_nI hj]
    have hpl := sg_pl_le hu
    have sp : sg_spot AU x y w (sg_ix y) AU[sg_ix y] := ⟨hw, hx, hyn, hu⟩
    subst hx
    refine sp_Desk_slot F U hz hu ⟨_, rfl, F, vp_in_nI (by omega) (by decide), ?_⟩
    rw [nI_clamp (by omega), (W _ (by omega : 24 * w + sg_pl AU AU[sg_ix y] < 48)).1]
    have N' : ∀ v : Int32, v = -1 → cc_net (cd_si h 77 (24 * w + sg_pl AU AU[sg_ix y]) v) (fun j => if j = 24 * w + sg_pl AU AU[sg_ix y] then none else NW j) := by
      intro v hv j hj
      show _ = cd_op (if j = 24 * w + sg_pl AU AU[sg_ix y] then none else NW j) ∧ ∀ v, (if j = 24 * w + sg_pl AU AU[sg_ix y] then none else NW j) = some v → _
      by_cases e : j = 24 * w + sg_pl AU AU[sg_ix y]
      · rw [if_pos e, cd_i_si, if_pos ⟨rfl, e⟩]
        exact ⟨hv, fun v hv => (by cases hv)⟩
      · rw [if_neg e, cd_i_si, if_neg (fun z => e z.2)]
        exact W j hj
    cases hN : NW (24 * w + sg_pl AU AU[sg_ix y]) with
    | none =>
      refine ⟨fun t => absurd rfl t, fun _ => ?_⟩
      have K := h1 w _ _ sp h (cd_ch.rf _ _) rfl F (fun j hj => ?_)
      · rw [hN] at K
        exact K
      · show _ = cd_op (if j = 24 * w + sg_pl AU AU[sg_ix y] then none else NW j) ∧ ∀ v, (if j = 24 * w + sg_pl AU AU[sg_ix y] then none else NW j) = some v → _
        by_cases e : j = 24 * w + sg_pl AU AU[sg_ix y]
        · rw [if_pos e]
          have := W j hj
          rw [e, hN] at this
          rw [e]
          exact this
        · rw [if_neg e]
          exact W j hj
    | some v =>
      refine ⟨fun _ => sp_Desk_slot F U hz hu ⟨_, rfl, F, vp_in_nI (by omega) (by decide), ?_⟩, fun t => ?_⟩
      · rw [nI_clamp (by omega)]
        have K := h1 w _ _ sp _ (cd_ch.si rfl) rfl (F.of rfl rfl) (N' (-1) rfl)
        rw [hN] at K
        exact K
      · have hvl := (W _ (by omega : 24 * w + sg_pl AU AU[sg_ix y] < 48)).2 v hN
        have := cd_op_pos (q := v) (by omega)
        rw [t] at this
        exact absurd (by decide) this
end VDN
