theorem sg_same_iff {u v : sg_U} : sg_same u v = true ↔ sgu_len u = sgu_len v ∧ ∀ j, j < sgu_len u → sgu_N u j = sgu_N v j := by
  unfold sg_same
  rw [Bool.and_eq_true, decide_eq_true_iff, List.all_eq_true]
  constructor
  · rintro ⟨h1, h2⟩
    exact ⟨h1, fun j hj => of_decide_eq_true (h2 j (List.mem_range.mpr hj))⟩
  · rintro ⟨h1, h2⟩
    exact ⟨h1, fun j hj => decide_eq_true (h2 j (List.mem_range.mp hj))⟩
theorem sg_pl_eq {AU : List sg_U} {u : sg_U} {c : Nat} (hc : c < AU.length) (h1 : sg_same AU[c] u = true) (h0 : ∀ j, (hj : j < c) → sg_same (AU[j]'(by omega)) u = false) : sg_pl AU u = c := by
  unfold sg_pl
  rw [List.findIdx_eq hc]
  exact ⟨h1, fun j hj => h0 j hj⟩
theorem sg_pl_le {AU : List sg_U} {u : sg_U} {a : Nat} (ha : AU[a]? = some u) : sg_pl AU u ≤ a := by
  obtain ⟨hl, e⟩ := List.getElem?_eq_some_iff.mp ha
  by_cases z : sg_pl AU u ≤ a
  · exact z
  · have hn : a < AU.findIdx (fun v => sg_same v u) := by
      show a < sg_pl AU u
      omega
    have := List.not_of_lt_findIdx hn
    rw [e, sg_same_iff.mpr ⟨rfl, fun _ _ => rfl⟩] at this
    cases this
section VSP
variable {X : cd_E} {kc ks : Nat} {h : cd_H} {Q : Option Value → cd_H → Prop} {now : Nat} {AC : List sg_A} {AU : List sg_U}
theorem sp_Mod_spot_32 (F : cm_ok h) {w a c : Nat} {u v : sg_U} (ha : a < 24) (hc : c < 24) (Au : cm_nam h a (sgu_N u) (sgu_len u)) (Av : cm_nam h c (sgu_N v) (sgu_len v)) (h1 : sg_same v u = true → Q (some (.int (nI (24 * w + c)))) h) (h0 : sg_same v u = false → cd_W X m_Mod_spot kc ks 2 [some (.ref 82), some (.int (nI w)), some (.int (nI a)), some (.int (nI (c + 1))), none, none] [] h Q) : ∀ i j, i + j = sgu_len u → sgu_len v = sgu_len u → (∀ k, k < j → sgu_N v k = sgu_N u k) → cd_W X m_Mod_spot kc ks 32 [some (.ref 82), some (.int (nI w)), some (.int (nI a)), some (.int (nI c)), some (.int 1), some (.int (nI j))] [] h Q := by
  have l1 := Au.1
  have l2 := Av.1
  intro i
  induction i with
  | zero =>
    intro j hj hl hk
    refine g_Mod_spot_32 F ⟨vp_in_nI ha (by decide), ?_⟩
    rw [nI_clamp (by omega), Au.2.1, nI_leI (by omega) (by omega)]
    refine ⟨fun _ => ⟨fun t => absurd t (by decide), fun _ => ?_⟩, fun t => by omega⟩
    rw [show (24 : Int32) = nI 24 by decide, pk_mul, nI_add]
    exact h1 (sg_same_iff.mpr ⟨hl, fun k hk2 => hk k (by omega)⟩)
  | succ i ih =>
    intro j hj hl hk
    obtain ⟨y1, y2⟩ := Au.2.2 j (by omega)
    obtain ⟨z1, z2⟩ := Av.2.2 j (by omega)
    have ea : (12 : Int32) * nI a + nI j = nI (12 * a + j) := by rw [show (12 : Int32) = nI 12 by decide, pk_mul, nI_add]
    have ec : (12 : Int32) * nI c + nI j = nI (12 * c + j) := by rw [show (12 : Int32) = nI 12 by decide, pk_mul, nI_add]
    refine g_Mod_spot_32 F ⟨vp_in_nI ha (by decide), ?_⟩
    rw [nI_clamp (by omega), Au.2.1, nI_leI (by omega) (by omega), ea, ec, nI_clamp (by omega), nI_clamp (by omega), y1, z1, nI_eq (by omega) (by omega)]
    refine ⟨fun t => by omega, fun _ => ⟨fun t => absurd t (by decide), fun _ => ⟨vp_in_nI (by omega) (by decide), vp_in_nI (by omega) (by decide), fun t => ?_, fun t => ?_⟩⟩⟩
    · have hf : sg_same v u = false := by
        cases hs : sg_same v u with
        | false => rfl
        | true => exact absurd ((sg_same_iff.mp hs).2 j (by omega)).symm t
      refine g_Mod_spot_32 F ⟨vp_in_nI ha (by decide), fun _ => ⟨fun _ => ?_, fun t2 => absurd rfl t2⟩, fun _ => ⟨fun _ => ?_, fun t2 => absurd rfl t2⟩⟩
      · rw [nI_1]; exact h0 hf
      · rw [nI_1]; exact h0 hf
    · rw [nI_1]
      refine ih (j + 1) (by omega) hl (fun k hk2 => ?_)
      by_cases e : k = j
      · subst e; exact t.symm
      · exact hk k (by omega)
theorem sp_Mod_spot (F : cm_ok h) (U : cm_aut h now AC AU) {w a : Nat} {u : sg_U} (hw : w ≤ 1) (ha : AU[a]? = some u) (hq : Q (some (.int (nI (24 * w + sg_pl AU u)))) h) : cd_W X m_Mod_spot kc ks 0 [some (.ref 82), some (.int (nI w)), some (.int (nI a)), none, none, none] [] h Q := by
  have u1 := U.1
  obtain ⟨hal, hae⟩ := List.getElem?_eq_some_iff.mp ha
  have Au := (U.2.2.1 a u ha).2.2.1
  have l1 := Au.1
  refine g_Mod_spot F ?_
  have loop : ∀ i c, i + c = a → (∀ j, (hj : j < c) → (hl : j < AU.length) → sg_same AU[j] u = false) → cd_W X m_Mod_spot kc ks 2 [some (.ref 82), some (.int (nI w)), some (.int (nI a)), some (.int (nI c)), none, none] [] h Q := by
    intro i
    induction i with
    | zero =>
      intro c hc hz
      have e : c = a := by omega
      subst e
      refine g_Mod_spot_2 F ⟨fun _ => ?_, fun t => absurd (nI_le (Nat.le_refl _) (by omega)) t⟩
      rw [show (24 : Int32) = nI 24 by decide, pk_mul, nI_add]
      rw [sg_pl_eq hal (by rw [hae]; exact sg_same_iff.mpr ⟨rfl, fun _ _ => rfl⟩) (fun j hj => hz j hj (by omega))] at hq
      exact hq
    | succ i ih =>
      intro c hc hz
      have hcl : c < AU.length := by omega
      have e : AU[c]? = some AU[c] := List.getElem?_eq_getElem hcl
      have Av := (U.2.2.1 c _ e).2.2.1
      have l2 := Av.1
      have h1 : sg_same AU[c] u = true → Q (some (.int (nI (24 * w + c)))) h := by
        intro hs
        rw [sg_pl_eq hcl hs (fun j hj => hz j hj (by omega))] at hq
        exact hq
      have h0 : sg_same AU[c] u = false → cd_W X m_Mod_spot kc ks 2 [some (.ref 82), some (.int (nI w)), some (.int (nI a)), some (.int (nI (c + 1))), none, none] [] h Q := by
        intro hs
        refine ih (c + 1) (by omega) (fun j hj hl => ?_)
        by_cases ej : j = c
        · subst ej; exact hs
        · exact hz j (by omega) hl
      refine g_Mod_spot_2 F ⟨fun t => ?_, fun _ => ⟨vp_in_nI (by omega) (by decide), vp_in_nI (by omega) (by decide), ?_⟩⟩
      · rw [nI_leI (by omega) (by omega)] at t
        omega
      · rw [nI_clamp (by omega), nI_clamp (by omega), Au.2.1, Av.2.1, nI_eq (by omega) (by omega)]
        refine ⟨fun t => ?_, fun t => ?_⟩
        · have hf : sg_same AU[c] u = false := by
            cases hs : sg_same AU[c] u with
            | false => rfl
            | true => exact absurd (sg_same_iff.mp hs).1.symm t
          refine g_Mod_spot_32 F ⟨vp_in_nI (by omega) (by decide), fun _ => ⟨fun _ => ?_, fun t2 => absurd rfl t2⟩, fun _ => ⟨fun _ => ?_, fun t2 => absurd rfl t2⟩⟩
          · rw [nI_1]; exact h0 hf
          · rw [nI_1]; exact h0 hf
        · exact sp_Mod_spot_32 F (by omega) (by omega) Au Av h1 h0 (sgu_len u) 0 (by omega) t.symm (fun k hk => by omega)
  exact loop a 0 (by omega) (fun j hj => by omega)
end VSP
