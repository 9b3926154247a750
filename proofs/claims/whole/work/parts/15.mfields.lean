section MFL
variable {X : cd_E} {kc ks : Nat} {h : cd_H} {Q : Option Value → cd_H → Prop} {T : Nat → Nat} {n : Nat}
theorem cd_34 : (34 : Int32) = nI 34 := by decide
theorem cd_44 : (44 : Int32) = nI 44 := by decide
theorem cd_46 : (46 : Int32) = nI 46 := by decide
theorem cd_91 : (91 : Int32) = nI 91 := by decide
theorem cd_93 : (93 : Int32) = nI 93 := by decide
theorem cd_123 : (123 : Int32) = nI 123 := by decide
theorem cd_125 : (125 : Int32) = nI 125 := by decide
theorem sp_ve_open (F : cm_ok h) (Z : cm_txt h T n) {c p : Nat} (hp : p < n) (hc : c ≤ 200) (hT : T p = 91 ∨ T p = 123) (H : cd_W X m_Mod_valueEnd kc ks 37 [some (.ref 82), none, some (.int (nI (c + 1))), some (.int (nI (p + 1))), none] [] h Q) : cd_W X m_Mod_valueEnd kc ks 37 [some (.ref 82), none, some (.int (nI c)), some (.int (nI p)), none] [] h Q := by
  obtain ⟨z1, z2, z3, z4⟩ := Z
  have hz := z4 p hp
  have q : ∀ m : Nat, m < 2 ^ 31 → (nI (T p) = nI m ↔ T p = m) := fun m hm => nI_eq (by omega) hm
  refine g_Mod_valueEnd_37 F ⟨fun hn => ?_, fun _ => ⟨vp_in_nI (by omega) (by decide), ?_⟩⟩
  · rw [z2, nI_leI (by omega) (by omega)] at hn
    omega
  · rw [nI_clamp (by omega), z3 p hp, cd_91, cd_123, cd_93, cd_125, cd_34, q 91 (by decide), q 123 (by decide), q 93 (by decide), q 125 (by decide), q 34 (by decide), nI_1, nI_1]
    refine ⟨fun t1 => ⟨fun _ => ⟨fun _ => H, fun t3 => ?_⟩, fun t2 => ?_⟩, fun t1 => ⟨fun t2 => ?_, fun _ => ⟨fun _ => ⟨fun _ => H, fun t3 => ?_⟩, fun t2 => ?_⟩⟩⟩
    · exact absurd t3 (nI_ne0 (by omega) (by omega))
    · omega
    · omega
    · exact absurd t3 (nI_ne0 (by omega) (by omega))
    · omega
theorem sp_ve_close (F : cm_ok h) (Z : cm_txt h T n) {c p : Nat} (hp : p < n) (hc : c ≤ 200) (hT : T p = 93 ∨ T p = 125) (H : c = 0 → Q (some (.int (nI (p + 1)))) h) (H2 : 0 < c → cd_W X m_Mod_valueEnd kc ks 37 [some (.ref 82), none, some (.int (nI c)), some (.int (nI (p + 1))), none] [] h Q) : cd_W X m_Mod_valueEnd kc ks 37 [some (.ref 82), none, some (.int (nI (c + 1))), some (.int (nI p)), none] [] h Q := by
  obtain ⟨z1, z2, z3, z4⟩ := Z
  have hz := z4 p hp
  have q : ∀ m : Nat, m < 2 ^ 31 → (nI (T p) = nI m ↔ T p = m) := fun m hm => nI_eq (by omega) hm
  have q0 : nI c = 0 ↔ c = 0 := nI_eq (b := 0) (by omega) (by decide)
  refine g_Mod_valueEnd_37 F ⟨fun hn => ?_, fun _ => ⟨vp_in_nI (by omega) (by decide), ?_⟩⟩
  · rw [z2, nI_leI (by omega) (by omega)] at hn
    omega
  · rw [nI_clamp (by omega), z3 p hp, cd_91, cd_123, cd_93, cd_125, cd_34, q 91 (by decide), q 123 (by decide), q 93 (by decide), q 125 (by decide), q 34 (by decide), nI_pred, q0, nI_1 p]
    refine ⟨fun t1 => ?_, fun t1 => ⟨fun t2 => ⟨fun _ => ⟨fun _ => ⟨fun t3 => H2 (by omega), fun t3 => H t3⟩, fun t2 => ?_⟩, fun _ => ⟨fun t3 => ?_, fun _ => ⟨fun _ => ⟨fun t3 => H2 (by omega), fun t3 => H t3⟩, fun t2 => ?_⟩⟩⟩, fun t2 => ?_⟩⟩
    · omega
    · omega
    · omega
    · omega
    · omega
theorem sp_ve_other (F : cm_ok h) (Z : cm_txt h T n) {c p : Nat} (hp : p < n) (h0 : 0 < c) (hc : c ≤ 200) (hT : ¬ T p = 93 ∧ ¬ T p = 125 ∧ ¬ T p = 91 ∧ ¬ T p = 123) (H : ¬ T p = 34 → cd_W X m_Mod_valueEnd kc ks 37 [some (.ref 82), none, some (.int (nI c)), some (.int (nI (p + 1))), none] [] h Q) (H2 : T p = 34 → ∃ e, tx_s T n p = some e ∧ cd_W X m_Mod_valueEnd kc ks 37 [some (.ref 82), none, some (.int (nI c)), some (.int (nI e)), none] [] h Q) : cd_W X m_Mod_valueEnd kc ks 37 [some (.ref 82), none, some (.int (nI c)), some (.int (nI p)), none] [] h Q := by
  have Z' := Z
  obtain ⟨z1, z2, z3, z4⟩ := Z
  have hz := z4 p hp
  have q : ∀ m : Nat, m < 2 ^ 31 → (nI (T p) = nI m ↔ T p = m) := fun m hm => nI_eq (by omega) hm
  have q0 : ¬ nI c = 0 := nI_ne0 h0 (by omega)
  refine g_Mod_valueEnd_37 F ⟨fun hn => ?_, fun _ => ⟨vp_in_nI (by omega) (by decide), ?_⟩⟩
  · rw [z2, nI_leI (by omega) (by omega)] at hn
    omega
  · rw [nI_clamp (by omega), z3 p hp, cd_91, cd_123, cd_93, cd_125, cd_34, q 91 (by decide), q 123 (by decide), q 93 (by decide), q 125 (by decide), q 34 (by decide), nI_1 p]
    refine ⟨fun t1 => absurd t1 hT.2.2.1, fun t1 => ⟨fun t2 => ⟨fun t3 => absurd t3 hT.1, fun _ => ⟨fun t4 => ⟨fun t5 => ⟨fun _ => H t5, fun t6 => absurd t6 q0⟩, fun t5 => ?_⟩, fun t4 => absurd t4 hT.2.1⟩⟩, fun t2 => absurd t2 hT.2.2.2⟩⟩
    obtain ⟨e, e1, H3⟩ := H2 t5
    refine sp_Mod_stringEnd F Z' hp ?_
    rw [e1]
    exact ⟨_, rfl, F, fun _ => H3, fun t6 => absurd t6 q0⟩
theorem sp_ve_digits (F : cm_ok h) (Z : cm_txt h T n) {c : Nat} (h0 : 0 < c) (hc : c ≤ 200) : ∀ (m p : Nat), n - p = m → cd_W X m_Mod_valueEnd kc ks 37 [some (.ref 82), none, some (.int (nI c)), some (.int (nI (tx_A T n p))), none] [] h Q → cd_W X m_Mod_valueEnd kc ks 37 [some (.ref 82), none, some (.int (nI c)), some (.int (nI p)), none] [] h Q := by
  intro m
  induction m with
  | zero =>
    intro p hm H
    rw [tx_A, if_neg (by omega)] at H
    exact H
  | succ m ih =>
    intro p hm H
    rw [tx_A] at H
    split at H
    · rename_i hd
      exact sp_ve_other F Z hd.1 h0 hc (by omega) (fun _ => ih (p + 1) (by omega) H) (fun t => by omega)
    · exact H
theorem sp_ve_value (F : cm_ok h) (Z : cm_txt h T n) : ∀ (f d c p e : Nat), 0 < c → c + f ≤ 200 → tx_V T n (tx_m T n) f d p = some e → cd_W X m_Mod_valueEnd kc ks 37 [some (.ref 82), none, some (.int (nI c)), some (.int (nI e)), none] [] h Q → cd_W X m_Mod_valueEnd kc ks 37 [some (.ref 82), none, some (.int (nI c)), some (.int (nI p)), none] [] h Q := by
  intro f
  induction f with
  | zero => intro d c p e _ _ h; cases h
  | succ f ih =>
    intro d c p e h0 hc hV H
    have row : ∀ last, (last = 93 ∨ last = 125) → ∀ k q, tx_L T n (tx_V T n (tx_m T n) f (d + 1)) last k q = some e → cd_W X m_Mod_valueEnd kc ks 37 [some (.ref 82), none, some (.int (nI (c + 1))), some (.int (nI q)), none] [] h Q := by
      intro last hl k
      induction k with
      | zero => intro q hq; cases hq
      | succ k ihk =>
        intro q hq
        rcases hl with rfl | rfl
        · obtain ⟨x, e1, hx, h6⟩ := tx_L_arr hq
          refine ih (d + 1) (c + 1) q x (by omega) (by omega) e1 ?_
          rcases h6 with ⟨h6, rfl⟩ | ⟨h6, h7⟩
          · exact sp_ve_close F Z hx (by omega) (Or.inl h6) (fun z => by omega) (fun _ => H)
          · exact sp_ve_other F Z hx (by omega) (by omega) (by omega) (fun _ => ihk (x + 1) h7) (fun t => by omega)
        · obtain ⟨y, x, s1, s2, s3, e1, hx, h6⟩ := tx_L_obj hq
          obtain ⟨_, _, a3, a4, _, _⟩ := tx_s_some s1
          refine sp_ve_other F Z a3 (by omega) (by omega) (by omega) (fun t => absurd a4 t) (fun _ => ⟨y, s1, ?_⟩)
          refine sp_ve_other F Z s2 (by omega) (by omega) (by omega) (fun _ => ?_) (fun t => by omega)
          refine ih (d + 1) (c + 1) (y + 1) x (by omega) (by omega) e1 ?_
          rcases h6 with ⟨h6, rfl⟩ | ⟨h6, h7⟩
          · exact sp_ve_close F Z hx (by omega) (Or.inr h6) (fun z => by omega) (fun _ => H)
          · exact sp_ve_other F Z hx (by omega) (by omega) (by omega) (fun _ => ihk (x + 1) h7) (fun t => by omega)
    have parts : ∀ last, (last = 93 ∨ last = 125) → p < n → (T p = 91 ∨ T p = 123) → tx_P T n (tx_V T n (tx_m T n) f (d + 1)) last (d + 1) p = some e → cd_W X m_Mod_valueEnd kc ks 37 [some (.ref 82), none, some (.int (nI c)), some (.int (nI p)), none] [] h Q := by
      intro last hl hp hT hq
      rw [tx_P] at hq
      split at hq
      · cases hq
      · refine sp_ve_open F Z hp (by omega) hT ?_
        split at hq
        · rename_i hc1
          cases hq
          exact sp_ve_close F Z hc1.1 (by omega) (by omega) (fun z => by omega) (fun _ => H)
        · exact row last hl 96 (p + 1) hq
    rw [tx_V] at hV
    by_cases c1 : p < n ∧ T p = 34
    · rw [if_pos c1] at hV
      exact sp_ve_other F Z c1.1 h0 (by omega) (by omega) (fun t => absurd c1.2 t) (fun _ => ⟨e, hV, H⟩)
    · rw [if_neg c1] at hV
      by_cases c2 : p < n ∧ T p = 91
      · rw [if_pos c2] at hV
        exact parts 93 (Or.inl rfl) c2.1 (Or.inl c2.2) hV
      · rw [if_neg c2] at hV
        by_cases c3 : p < n ∧ T p = 123
        · rw [if_pos c3] at hV
          exact parts 125 (Or.inr rfl) c3.1 (Or.inr c3.2) hV
        · rw [if_neg c3] at hV
          obtain ⟨_, _, rfl, _⟩ := tx_m_some hV
          exact sp_ve_digits F Z h0 (by omega) (n - p) p rfl H
theorem sp_Mod_valueEnd (F : cm_ok h) (Z : cm_txt h T n) {p e : Nat} (hW : tx_W T n p = some e) (hq : Q (some (.int (nI e))) h) : cd_W X m_Mod_valueEnd kc ks 0 [some (.ref 82), some (.int (nI p)), none, none, none] [] h Q := by
  have hp := (tx_W_lt hW).1
  have hn := Z.1
  have hz := Z.2.2.2 p hp
  have ea : tx_at T n p = T p := by rw [tx_at, if_pos hp]
  refine g_Mod_valueEnd F (sp_Mod_at F Z (by omega) ⟨_, rfl, F, fun t1 => ?_, fun t1 => ?_⟩)
  · rw [ea, cd_34, nI_eq (by omega) (by decide)] at t1
    refine sp_Mod_at F Z (by omega) ⟨_, rfl, F, sp_Mod_digit F (by omega) ⟨_, rfl, F, fun t2 => ?_, fun t2 => ?_⟩⟩
    · rw [ea] at t2
      have hnd : ¬ (48 ≤ T p ∧ T p ≤ 57) := by
        intro hd; rw [if_pos hd] at t2; exact absurd t2 (by decide)
      have row : ∀ last, (last = 93 ∨ last = 125) → ∀ k q, tx_L T n (tx_W T n) last k q = some e → cd_W X m_Mod_valueEnd kc ks 37 [some (.ref 82), none, some (.int (nI 1)), some (.int (nI q)), none] [] h Q := by
        intro last hl k
        induction k with
        | zero => intro q hq; cases hq
        | succ k ihk =>
          intro q hq
          rcases hl with rfl | rfl
          · obtain ⟨x, e1, hx, h6⟩ := tx_L_arr hq
            refine sp_ve_value F Z 7 0 1 q x (by omega) (by omega) e1 ?_
            rcases h6 with ⟨h6, rfl⟩ | ⟨h6, h7⟩
            · exact sp_ve_close (c := 0) F Z hx (by omega) (Or.inl h6) (fun z => by assumption) (fun z => by omega)
            · exact sp_ve_other F Z hx (by omega) (by omega) (by omega) (fun _ => ihk (x + 1) h7) (fun t => by omega)
          · obtain ⟨y, x, s1, s2, s3, e1, hx, h6⟩ := tx_L_obj hq
            obtain ⟨_, _, a3, a4, _, _⟩ := tx_s_some s1
            refine sp_ve_other F Z a3 (by omega) (by omega) (by omega) (fun t => absurd a4 t) (fun _ => ⟨y, s1, ?_⟩)
            refine sp_ve_other F Z s2 (by omega) (by omega) (by omega) (fun _ => ?_) (fun t => by omega)
            refine sp_ve_value F Z 7 0 1 (y + 1) x (by omega) (by omega) e1 ?_
            rcases h6 with ⟨h6, rfl⟩ | ⟨h6, h7⟩
            · exact sp_ve_close (c := 0) F Z hx (by omega) (Or.inr h6) (fun z => by assumption) (fun z => by omega)
            · exact sp_ve_other F Z hx (by omega) (by omega) (by omega) (fun _ => ihk (x + 1) h7) (fun t => by omega)
      have fin : ∀ last, (last = 93 ∨ last = 125) → (T p = 91 ∨ T p = 123) → ((p + 1 < n ∧ T (p + 1) = last ∧ e = p + 2) ∨ (¬ (p + 1 < n ∧ T (p + 1) = last) ∧ tx_L T n (tx_W T n) last 96 (p + 1) = some e)) → cd_W X m_Mod_valueEnd kc ks 37 [some (.ref 82), none, some (.int (nI 0)), some (.int (nI p)), none] [] h Q := by
        intro last hl hT hh
        refine sp_ve_open F Z hp (by omega) hT ?_
        rcases hh with ⟨b1, b2, rfl⟩ | ⟨_, b2⟩
        · exact sp_ve_close (c := 0) F Z b1 (by omega) (by omega) (fun z => hq) (fun z => by omega)
        · exact row last hl 96 (p + 1) b2
      by_cases c2 : T p = 91
      · exact fin 93 (Or.inl rfl) (Or.inl c2) (tx_W_arr hW hp c2)
      · by_cases c3 : T p = 123
        · exact fin 125 (Or.inr rfl) (Or.inr c3) (tx_W_obj hW hp c3)
        · have := tx_m_some (tx_W_num hW (by omega) (by omega) (by omega))
          omega
    · rw [ea] at t2
      have hnd : (48 ≤ T p ∧ T p ≤ 57) := by
        by_cases hd : (48 ≤ T p ∧ T p ≤ 57)
        · exact hd
        · rw [if_neg hd] at t2; exact absurd rfl t2
      refine sp_Mod_numberEnd F Z hp ?_
      rw [tx_W_num hW (by omega) (by omega) (by omega)]
      exact ⟨_, rfl, F, hq⟩
  · rw [ea, cd_34, nI_eq (by omega) (by decide)] at t1
    refine sp_Mod_stringEnd F Z hp ?_
    rw [tx_W_str hW hp t1]
    exact ⟨_, rfl, F, hq⟩
end MFL
