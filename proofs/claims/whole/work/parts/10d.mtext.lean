def cm_txt (h : cd_H) (T : Nat → Nat) (n : Nat) : Prop := n ≤ 96 ∧ cd_i h 82 2 = nI n ∧ (∀ j, j < n → cd_i h 83 j = nI (T j)) ∧ ∀ j, j < n → 32 ≤ T j ∧ T j ≤ 126
def cd_op (o : Option Nat) : Int32 := match o with
  | none => -1
  | some q => nI q
theorem cd_op_neg : cd_op none < 0 := by decide
theorem cd_op_pos {q : Nat} (h : q < 2 ^ 31) : ¬ cd_op (some q) < 0 := nI_pos h
def tx_at (T : Nat → Nat) (n p : Nat) : Nat := if p < n then T p else 32
section MTX
variable {X : cd_E} {kc ks : Nat} {h : cd_H} {Q : Option Value → cd_H → Prop} {T : Nat → Nat} {n : Nat}
theorem tx_at_lt (Z : cm_txt h T n) (p : Nat) : tx_at T n p ≤ 126 := by
  rw [tx_at]
  split
  · rename_i hp; exact (Z.2.2.2 p hp).2
  · decide
theorem sp_Mod_at {p : Nat} (F : cm_ok h) (Z : cm_txt h T n) (hp : p < 2 ^ 31) (hq : Q (some (.int (nI (tx_at T n p)))) h) : cd_W X m_Mod_at kc ks 0 [some (.ref 82), some (.int (nI p))] [] h Q := by
  obtain ⟨z1, z2, z3, z4⟩ := Z
  refine g_Mod_at F ⟨fun hc => absurd hc (nI_pos hp), fun _ => ⟨fun hc => ?_, fun hc => ?_⟩⟩
  · rw [z2, nI_leI (by omega) hp] at hc
    rw [tx_at, if_neg (by omega)] at hq
    exact hq
  · rw [z2, nI_leI (by omega) hp] at hc
    rw [tx_at, if_pos (by omega)] at hq
    rw [nI_clamp hp, z3 p (by omega)]
    have := z4 p (by omega)
    exact ⟨vp_in_nI (by omega) (by decide), (pk_charN (by omega)).1, hq⟩
theorem sp_Mod_at_m1 (F : cm_ok h) (hq : Q (some (.int 32)) h) : cd_W X m_Mod_at kc ks 0 [some (.ref 82), some (.int (-1))] [] h Q :=
  g_Mod_at F ⟨fun _ => hq, fun hc => absurd (by decide) hc⟩
theorem sp_Mod_digit {c : Nat} (F : cm_ok h) (hc : c < 2 ^ 31) (hq : Q (some (.int (if 48 ≤ c ∧ c ≤ 57 then 1 else 0))) h) : cd_W X m_Mod_digit kc ks 0 [some (.int (nI c))] [] h Q := by
  have e48 : (48 : Int32) = nI 48 := by decide
  have e57 : (57 : Int32) = nI 57 := by decide
  refine g_Mod_digit F ⟨fun h1 => ?_, fun h1 => ⟨fun h2 => ?_, fun h2 => ?_⟩⟩
  · rw [e48, nI_ltI hc (by decide)] at h1
    rw [if_neg (by omega)] at hq
    exact hq
  · rw [e57, nI_ltI (by decide) hc] at h2
    rw [if_neg (by omega)] at hq
    exact hq
  · rw [e48, nI_ltI hc (by decide)] at h1
    rw [e57, nI_ltI (by decide) hc] at h2
    rw [if_pos (by omega)] at hq
    exact hq
theorem sp_Mod_stringEnd_4 (F : cm_ok h) (Z : cm_txt h T n) {p : Nat} (hp : p < n) (hq : Q (some (.int (cd_op (tx_s T n p)))) h) : ∀ (m i : Nat), n - i = m → p < i → i ≤ n → tx_S T n (p + 1) = tx_S T n i → cd_W X m_Mod_stringEnd kc ks 4 [some (.ref 82), some (.int (nI p)), some (.int (nI i))] [] h Q := by
  have e34 : (34 : Int32) = nI 34 := by decide
  have e92 : (92 : Int32) = nI 92 := by decide
  obtain ⟨z1, z2, z3, z4⟩ := Z
  have Z : cm_txt h T n := ⟨z1, z2, z3, z4⟩
  have hTp := z4 p hp
  have tail : ∀ i, p < i → i ≤ n → (tx_S T n i = if i < n ∧ T i = 34 then some (i + 1) else none) → tx_S T n (p + 1) = tx_S T n i →
      cd_W X m_Mod_at 0 0 0 [some (.ref 82), some (.int (nI p))] [] h (fun r2 h3 => ∃ x4 : Int32, r2 = some (.int x4) ∧ ((cm_ok h3) ∧ ((((¬ x4 = 34) → (Q (some (.int (-1))) h3)) ∧ ((x4 = 34) → (cd_W X m_Mod_at 0 0 0 [some (.ref 82), some (.int (nI i))] [] h3 (fun r7 h8 => ∃ x9 : Int32, r7 = some (.int x9) ∧ ((cm_ok h8) ∧ ((((¬ x9 = 34) → (Q (some (.int (-1))) h8)) ∧ ((x9 = 34) → (Q (some (.int (nI i + 1))) h8)))))))))))) := by
    intro i hpi hin e1 e2
    refine sp_Mod_at F Z (by omega) ⟨_, rfl, F, ?_, ?_⟩
    · intro hc
      rw [tx_at, if_pos hp, e34, nI_eq (by omega) (by decide)] at hc
      rw [tx_s, if_neg (fun z => hc z.2)] at hq
      exact hq
    · intro hc
      rw [tx_at, if_pos hp, e34, nI_eq (by omega) (by decide)] at hc
      rw [tx_s, if_pos ⟨hp, hc⟩, e2, e1] at hq
      refine sp_Mod_at F Z (by omega) ⟨_, rfl, F, ?_, ?_⟩
      · intro hd
        rw [e34, nI_eq (by have := tx_at_lt Z i; omega) (by decide), tx_at] at hd
        rw [if_neg (fun z => hd (by rw [if_pos z.1]; exact z.2))] at hq
        exact hq
      · intro hd
        rw [e34, nI_eq (by have := tx_at_lt Z i; omega) (by decide), tx_at] at hd
        have hi : i < n := by
          by_cases hi : i < n
          · exact hi
          · rw [if_neg hi] at hd; omega
        rw [if_pos hi] at hd
        rw [if_pos ⟨hi, hd⟩] at hq
        rw [nI_1]
        exact hq
  intro m
  induction m with
  | zero =>
    intro i hm hpi hin e2
    have hi : i = n := by omega
    refine g_Mod_stringEnd_4 F ⟨fun _ => tail i hpi hin ?_ e2, fun hc => absurd ?_ hc⟩
    · rw [tx_S, if_neg (by omega), if_neg (by omega)]
    · rw [z2, nI_leI (by omega) (by omega)]
      omega
  | succ m ih =>
    intro i hm hpi hin e2
    have hi : i < n := by omega
    have hTi := z4 i hi
    refine g_Mod_stringEnd_4 F ⟨fun hc => ?_, fun _ => ⟨vp_in_nI (by omega) (by decide), ?_⟩⟩
    · rw [z2, nI_leI (by omega) (by omega)] at hc
      omega
    · rw [nI_clamp (by omega), z3 i hi]
      refine ⟨fun hc => ?_, fun hc => ⟨fun hd => ?_, fun hd => ?_⟩⟩
      · rw [e34, nI_eq (by omega) (by decide)] at hc
        refine tail i hpi hin ?_ e2
        rw [tx_S, if_pos hi, if_neg (by omega), if_pos hc, if_pos ⟨hi, hc⟩]
      · rw [e34, nI_eq (by omega) (by decide)] at hc
        rw [e92, nI_eq (by omega) (by decide)] at hd
        refine tail i hpi hin ?_ e2
        rw [tx_S, if_pos hi, if_pos hd, if_neg (by omega)]
      · rw [e34, nI_eq (by omega) (by decide)] at hc
        rw [e92, nI_eq (by omega) (by decide)] at hd
        rw [nI_1]
        refine ih (i + 1) (by omega) (by omega) (by omega) (e2.trans ?_)
        rw [tx_S, if_pos hi, if_neg hd, if_neg hc]
theorem sp_Mod_stringEnd (F : cm_ok h) (Z : cm_txt h T n) {p : Nat} (hp : p < n) (hq : Q (some (.int (cd_op (tx_s T n p)))) h) : cd_W X m_Mod_stringEnd kc ks 0 [some (.ref 82), some (.int (nI p)), none] [] h Q := by
  refine g_Mod_stringEnd F ?_
  rw [nI_1]
  exact sp_Mod_stringEnd_4 F Z hp hq (n - (p + 1)) (p + 1) rfl (by omega) (by omega) rfl
theorem sp_Mod_numberEnd_2 (F : cm_ok h) (Z : cm_txt h T n) {p : Nat} (hp : p < n) (hq : Q (some (.int (cd_op (tx_m T n p)))) h) : ∀ (m i : Nat), n - i = m → p ≤ i → i ≤ n → tx_A T n p = tx_A T n i → cd_W X m_Mod_numberEnd kc ks 2 [some (.ref 82), some (.int (nI p)), some (.int (nI i))] [] h Q := by
  have e48 : (48 : Int32) = nI 48 := by decide
  have i9 : (9 : Int32) = nI 9 := by decide
  have i0 : ¬ (1 : Int32) = 0 := by decide
  have stop : ∀ i, p ≤ i → i ≤ n → tx_A T n p = i → ¬ (i < n ∧ 48 ≤ T i ∧ T i ≤ 57) → cd_W X m_Mod_numberEnd kc ks 2 [some (.ref 82), some (.int (nI p)), some (.int (nI i))] [] h Q := by
    intro i h1 h2 h3 h4
    have hz1 := Z.1
    refine g_Mod_numberEnd_2 F ?_
    refine sp_Mod_at F Z (by omega) ⟨_, rfl, F, ?_⟩
    refine sp_Mod_digit F (by have := tx_at_lt Z i; omega) ⟨_, rfl, F, fun _ => ⟨fun hc => ?_, fun hc => ⟨fun hd => ?_, fun hd => ?_⟩⟩, fun hc => absurd ?_ hc⟩
    · rw [nI_eq (by omega) (by omega)] at hc
      rw [tx_m, if_pos (Or.inl (by omega))] at hq
      exact hq
    · rw [i9, nI_add, nI_ltI (by omega) (by omega)] at hd
      rw [tx_m, if_pos (Or.inr (Or.inl (by omega)))] at hq
      exact hq
    · rw [nI_eq (by omega) (by omega)] at hc
      rw [i9, nI_add, nI_ltI (by omega) (by omega)] at hd
      refine sp_Mod_at F Z (by omega) ⟨_, rfl, F, fun he => ?_, fun he => ⟨fun hf => ?_, fun hf => ?_⟩⟩
      · rw [tx_at, if_pos hp, e48, nI_eq (by have := Z.2.2.2 p hp; omega) (by decide)] at he
        rw [tx_m, if_neg (by omega), h3] at hq
        exact hq
      · rw [tx_at, if_pos hp, e48, nI_eq (by have := Z.2.2.2 p hp; omega) (by decide)] at he
        rw [nI_1, nI_leI (by omega) (by omega)] at hf
        rw [tx_m, if_neg (by omega), h3] at hq
        exact hq
      · rw [tx_at, if_pos hp, e48, nI_eq (by have := Z.2.2.2 p hp; omega) (by decide)] at he
        rw [nI_1, nI_leI (by omega) (by omega)] at hf
        rw [tx_m, if_pos (Or.inr (Or.inr ⟨he, by omega⟩))] at hq
        exact hq
    · rw [tx_at]
      by_cases hi : i < n
      · rw [if_pos hi, if_neg (fun z => h4 ⟨hi, z⟩)]
      · rw [if_neg hi, if_neg (by decide)]
  intro m
  induction m with
  | zero =>
    intro i hm h1 h2 h3
    have hA : tx_A T n i = i := by rw [tx_A, if_neg (by omega)]
    exact stop i h1 h2 (h3.trans hA) (by omega)
  | succ m ih =>
    intro i hm h1 h2 h3
    by_cases hd : i < n ∧ 48 ≤ T i ∧ T i ≤ 57
    · have hz1 := Z.1
      refine g_Mod_numberEnd_2 F ?_
      refine sp_Mod_at F Z (by omega) ⟨_, rfl, F, ?_⟩
      refine sp_Mod_digit F (by have := tx_at_lt Z i; omega) ⟨_, rfl, F, fun hc => absurd hc ?_, fun _ => ?_⟩
      · rw [tx_at, if_pos hd.1, if_pos hd.2]
        decide
      · rw [nI_1]
        refine ih (i + 1) (by omega) (by omega) (by omega) (h3.trans ?_)
        rw [tx_A, if_pos hd]
    · have hA : tx_A T n i = i := by rw [tx_A, if_neg hd]
      exact stop i h1 h2 (h3.trans hA) hd
theorem sp_Mod_numberEnd (F : cm_ok h) (Z : cm_txt h T n) {p : Nat} (hp : p < n) (hq : Q (some (.int (cd_op (tx_m T n p)))) h) : cd_W X m_Mod_numberEnd kc ks 0 [some (.ref 82), some (.int (nI p)), none] [] h Q :=
  g_Mod_numberEnd F (sp_Mod_numberEnd_2 F Z hp hq (n - p) p rfl (Nat.le_refl _) (by omega) rfl)
end MTX
