section MNM
variable {X : cd_E} {kc ks : Nat} {h : cd_H} {Q : Option Value → cd_H → Prop} {T : Nat → Nat} {n : Nat}
theorem tx_W_head {p x : Nat} (h : tx_W T n p = some x) : ¬ T p = 93 ∧ ¬ T p = 125 ∧ ¬ T p = 44 := by
  by_cases c1 : p < n ∧ T p = 34
  · omega
  · by_cases c2 : p < n ∧ T p = 91
    · omega
    · by_cases c3 : p < n ∧ T p = 123
      · omega
      · have := tx_m_some (tx_W_num h c1 c2 c3)
        omega
theorem sp_Mod_strings_22 : ∀ (k p cnt e0 : Nat) (h : cd_H), tx_L T n (tx_W T n) 93 k p = some e0 → cm_ok h → cm_txt h T n → k + cnt ≤ 96 → (∀ h', cd_o 112 h h' → (∀ i, i < cnt → cd_i h' 112 i = cd_i h 112 i) → (∀ l, tx_Z T n k p = some l → ∀ i q, l[i]? = some q → cnt + i < 3 → cd_i h' 112 (cnt + i) = nI q) → Q (some (.int (cd_op ((tx_Z T n k p).map (fun l => cnt + l.length))))) h') → cd_W X m_Mod_strings kc ks 22 [some (.ref 82), none, some (.int (nI cnt)), some (.int (nI p))] [] h Q := by
  intro k
  induction k with
  | zero => intro p cnt e0 h hL; cases hL
  | succ k ih =>
    intro p cnt e0 h hL F Z hk hq
    have z1 := Z.1
    have z4 := Z.2.2.2
    obtain ⟨x, s1, s2, s3⟩ := tx_L_arr hL
    have hp := (tx_W_lt s1).1
    have hh := tx_W_head s1
    have hz := z4 p hp
    have hat : tx_at T n p = T p := by rw [tx_at, if_pos hp]
    refine g_Mod_strings_22 F ⟨fun hc => ?_, fun _ => ?_⟩
    · rw [Z.2.1, nI_leI (by omega) (by omega)] at hc
      omega
    · refine sp_Mod_at F Z (by omega) ⟨_, rfl, F, fun hc => ?_, fun _ => sp_Mod_at F Z (by omega) ⟨_, rfl, F, fun hc => ?_, fun hc => ?_⟩⟩
      · rw [hat, cd_93, nI_eq (by omega) (by decide)] at hc
        exact absurd hc hh.1
      · rw [hat, cd_34, nI_eq (by omega) (by decide)] at hc
        have s4 := tx_W_str s1 hp hc
        have eZ : tx_Z T n (k + 1) p = if x < n ∧ T x = 93 then some [p] else (tx_Z T n k (x + 1)).map (fun l => p :: l) := by
          rw [tx_Z, if_pos ⟨hp, hc⟩, s4]
        have cont : ∀ h1 : cd_H, cm_ok h1 → cm_txt h1 T n → cd_o 112 h h1 → (∀ i, i < cnt → cd_i h1 112 i = cd_i h 112 i) → (cnt < 3 → cd_i h1 112 cnt = nI p) → cd_W X m_Mod_stringEnd 0 0 0 [some (.ref 82), some (.int (nI p)), none] [] h1 (fun r13 h14 => ∃ x15 : Int32, r13 = some (.int x15) ∧ ((cm_ok h14) ∧ (cd_W X m_Mod_at 0 0 0 [some (.ref 82), some (.int x15)] [] h14 (fun r17 h18 => ∃ x19 : Int32, r17 = some (.int x19) ∧ ((cm_ok h18) ∧ ((((¬ x19 = 44) → (cd_W X m_Mod_strings kc ks 22 [some (.ref 82), none, some (.int (nI cnt + 1)), some (.int x15)] [] h18 Q)) ∧ ((x19 = 44) → (cd_W X m_Mod_strings kc ks 22 [some (.ref 82), none, some (.int (nI cnt + 1)), some (.int (x15 + 1))] [] h18 Q))))))))) := by
          intro h1 F1 Z1 O1 P1 P2
          refine sp_Mod_stringEnd F1 Z1 hp ?_
          rw [s4]
          refine ⟨_, rfl, F1, ?_⟩
          have hzx := z4 x s2
          show cd_W X m_Mod_at 0 0 0 [some (.ref 82), some (.int (nI x))] [] h1 _
          refine sp_Mod_at F1 Z1 (by omega) ⟨_, rfl, F1, fun hd => ?_, fun hd => ?_⟩
          · rw [tx_at, if_pos s2, cd_44, nI_eq (by omega) (by decide)] at hd
            have hx : T x = 93 := by
              rcases s3 with ⟨h6, _⟩ | ⟨h6, _⟩
              · exact h6
              · exact absurd h6 hd
            rw [if_pos ⟨s2, hx⟩] at eZ
            rw [nI_1]
            have fin : Q (some (.int (nI (cnt + 1)))) h1 := by
              have := hq h1 O1 P1 (fun l hl i q hi hi3 => by
                rw [eZ] at hl
                cases hl
                cases i with
                | zero => cases hi; exact P2 hi3
                | succ i => cases hi)
              rw [eZ] at this
              exact this
            refine g_Mod_strings_22 F1 ⟨fun _ => fin, fun _ => ?_⟩
            show cd_W X m_Mod_at 0 0 0 [some (.ref 82), some (.int (nI x))] [] h1 _
            refine sp_Mod_at F1 Z1 (by omega) ⟨_, rfl, F1, fun _ => fin, fun he => ?_⟩
            rw [tx_at, if_pos s2, hx] at he
            exact absurd (by decide) he
          · rw [tx_at, if_pos s2, cd_44, nI_eq (by omega) (by decide)] at hd
            rw [if_neg (by omega)] at eZ
            rcases s3 with ⟨h6, _⟩ | ⟨_, h6⟩
            · omega
            · show cd_W X m_Mod_strings kc ks 22 [some (.ref 82), none, some (.int (nI cnt + 1)), some (.int (nI x + 1))] [] h1 Q
              rw [nI_1, nI_1]
              refine ih (x + 1) (cnt + 1) e0 h1 h6 F1 Z1 (by omega) (fun h' O2 P3 P4 => ?_)
              have e2 : (tx_Z T n (k + 1) p).map (fun l => cnt + l.length) = (tx_Z T n k (x + 1)).map (fun l => cnt + 1 + l.length) := by
                rw [eZ]
                cases tx_Z T n k (x + 1) with
                | none => rfl
                | some l => show some (cnt + (l.length + 1)) = some (cnt + 1 + l.length); congr 1; omega
              have := hq h' (O1.tr O2) (fun i hi => (P3 i (by omega)).trans (P1 i hi)) (fun l hl i q hi hi3 => by
                rw [eZ] at hl
                cases hl2 : tx_Z T n k (x + 1) with
                | none => rw [hl2] at hl; cases hl
                | some l2 =>
                  rw [hl2] at hl
                  cases hl
                  cases i with
                  | zero => cases hi; exact (P3 cnt (by omega)).trans (P2 hi3)
                  | succ i =>
                    have := P4 l2 hl2 i q hi (by omega)
                    rw [show cnt + (i + 1) = cnt + 1 + i by omega]
                    exact this)
              rw [e2] at this
              exact this
        refine ⟨fun hd => ?_, fun hd => ?_⟩
        · rw [show (3 : Int32) = nI 3 by decide, nI_leI (by decide) (by omega)] at hd
          exact cont h F Z (cd_o.rf _ _) (fun _ _ => rfl) (fun _ => by omega)
        · rw [show (3 : Int32) = nI 3 by decide, nI_leI (by decide) (by omega)] at hd
          refine ⟨vp_in_nI (by omega) (by decide), ?_⟩
          rw [nI_clamp (by omega)]
          have O1 := cd_o.si 112 h cnt (nI p)
          exact cont _ (O1.mok F) (O1.mtxt (by decide) (by decide) Z) O1 (fun i hi => by rw [cd_i_si, if_neg (by omega)]) (fun _ => by rw [cd_i_si, if_pos ⟨rfl, rfl⟩])
      · rw [hat, cd_34, nI_eq (by omega) (by decide)] at hc
        have eZ : tx_Z T n (k + 1) p = none := by rw [tx_Z, if_neg (fun z => hc z.2)]
        have := hq h (cd_o.rf _ _) (fun _ _ => rfl) (fun l hl => by rw [eZ] at hl; cases hl)
        rw [eZ] at this
        exact this
theorem sp_Mod_strings (F : cm_ok h) (Z : cm_txt h T n) {o : Option Nat} (ho : ∀ v, o = some v → ∃ e, tx_W T n v = some e) (hq : ∀ h', cd_o 112 h h' → (∀ l, tx_z T n o = some l → ∀ i q, l[i]? = some q → i < 3 → cd_i h' 112 i = nI q) → Q (some (.int (tx_lo (tx_z T n o)))) h') : cd_W X m_Mod_strings kc ks 0 [some (.ref 82), some (.int (cd_op o)), none, none] [] h Q := by
  have z1 := Z.1
  cases o with
  | none => exact g_Mod_strings F ⟨fun _ => hq h (cd_o.rf _ _) (fun l hl => by cases hl), fun hc => absurd cd_op_neg hc⟩
  | some v =>
    obtain ⟨e, hW⟩ := ho v rfl
    have hv := (tx_W_lt hW).1
    have hz := Z.2.2.2 v hv
    have hat : tx_at T n v = T v := by rw [tx_at, if_pos hv]
    refine g_Mod_strings F ⟨fun hc => absurd hc (cd_op_pos (by omega)), fun _ => ?_⟩
    show cd_W X m_Mod_at 0 0 0 [some (.ref 82), some (.int (nI v))] [] h _
    refine sp_Mod_at F Z (by omega) ⟨_, rfl, F, fun hc => ?_, fun hc => ?_⟩
    · rw [hat, cd_91, nI_eq (by omega) (by decide)] at hc
      rw [tx_z, if_pos ⟨hv, hc⟩] at hq
      show cd_W X m_Mod_strings kc ks 22 [some (.ref 82), none, some (.int 0), some (.int (nI v + 1))] [] h Q
      rw [nI_1, ← nI_0]
      rcases tx_W_arr hW hv hc with ⟨b1, b2, _⟩ | ⟨b1, b2⟩
      · rw [if_pos ⟨b1, b2⟩] at hq
        have fin := hq h (cd_o.rf _ _) (fun l hl i q hi => by cases hl; cases hi)
        refine g_Mod_strings_22 F ⟨fun _ => fin, fun _ => ?_⟩
        refine sp_Mod_at F Z (by omega) ⟨_, rfl, F, fun _ => fin, fun he => ?_⟩
        rw [tx_at, if_pos b1, b2] at he
        exact absurd (by decide) he
      · rw [if_neg b1] at hq
        refine sp_Mod_strings_22 96 (v + 1) 0 e h b2 F Z (by decide) (fun h' O _ P => ?_)
        have := hq h' O (fun l hl i q hi h3 => by have := P l hl i q hi (by omega); rw [Nat.zero_add] at this; exact this)
        have e3 : (tx_Z T n 96 (v + 1)).map (fun l => 0 + l.length) = (tx_Z T n 96 (v + 1)).map List.length := by
          congr 1
          funext l
          omega
        rw [e3]
        exact this
    · rw [hat, cd_91, nI_eq (by omega) (by decide)] at hc
      rw [tx_z, if_neg (fun z => hc z.2)] at hq
      exact hq h (cd_o.rf _ _) (fun l hl => by cases hl)
theorem sp_Mod_lengthAt (F : cm_ok h) (Z : cm_txt h T n) {p c : Nat} (hs : tx_s T n p = some c) (hq : Q (some (.int (nI (c - p - 2)))) h) : cd_W X m_Mod_lengthAt kc ks 0 [some (.ref 82), some (.int (nI p))] [] h Q := by
  obtain ⟨a1, a2, a3, a4, a5, a6⟩ := tx_s_some hs
  refine g_Mod_lengthAt F (sp_Mod_stringEnd F Z a3 ?_)
  rw [hs]
  refine ⟨_, rfl, F, ?_⟩
  show Q (some (.int (nI c - nI p - nI 2))) h
  rw [pk_sub (by omega), pk_sub (by omega)]
  exact hq
theorem sp_Mod_isName_0 (F : cm_ok h) {v1 v2 v4 : Int32} (hq : Q (some (.int 0)) h) : cd_W X m_Mod_isName kc ks 52 [some (.ref 82), some (.int v1), some (.int v2), some (.int 0), some (.int v4), none] [] h Q :=
  g_Mod_isName_52 F ⟨fun _ => ⟨Or.inl rfl, hq⟩, fun _ => ⟨fun _ => ⟨Or.inl rfl, hq⟩, fun hc => absurd rfl hc⟩⟩
theorem sp_Mod_isName_52 (F : cm_ok h) (Z : cm_txt h T n) {p m : Nat} (hm : 1 ≤ m ∧ m ≤ 12) (hn : p + 1 + m < n) (hT : T (p + 1 + m) = 34) (hf : ¬ T (p + 1) = 46) (hla : ¬ T (p + m) = 46) (h1 : tx_nm T p m → Q (some (.int 1)) h) (h0 : ¬ tx_nm T p m → Q (some (.int 0)) h) : ∀ (i j : Nat), i + j = m → (∀ u, u < j → tx_nc (T (p + 1 + u)) ∧ ¬ (T (p + 1 + u) = 46 ∧ T (p + 1 + (u + 1)) = 46)) → cd_W X m_Mod_isName kc ks 52 [some (.ref 82), some (.int (nI p)), some (.int (nI m)), some (.int 1), some (.int (nI (p + 1 + j))), none] [] h Q := by
  have z1 := Z.1
  have z4 := Z.2.2.2
  intro i
  induction i with
  | zero =>
    intro j hj hu
    have e : j = m := by omega
    subst e
    refine g_Mod_isName_52 F ⟨fun _ => ⟨Or.inr rfl, h1 ⟨hm, fun u hu2 => (hu u hu2).1, hf, hla, fun u hu2 => (hu u (by omega)).2⟩⟩, fun hc => absurd ?_ hc⟩
    rw [nI_add, nI_ltI (by omega) (by omega)]
    omega
  | succ i ih =>
    intro j hj hu
    have hjn : p + 1 + j < n := by omega
    have hz := z4 (p + 1 + j) hjn
    have hat : tx_at T n (p + 1 + j) = T (p + 1 + j) := by rw [tx_at, if_pos hjn]
    have hz2 := z4 (p + 1 + j + 1) (by omega)
    have hat2 : tx_at T n (p + 1 + j + 1) = T (p + 1 + j + 1) := by rw [tx_at, if_pos (by omega)]
    have go1 : tx_nc (T (p + 1 + j)) → ¬ (T (p + 1 + j) = 46 ∧ T (p + 1 + (j + 1)) = 46) → cd_W X m_Mod_isName kc ks 52 [some (.ref 82), some (.int (nI p)), some (.int (nI m)), some (.int 1), some (.int (nI (p + 1 + j) + 1)), none] [] h Q := by
      intro g1 g2
      rw [nI_1, show p + 1 + j + 1 = p + 1 + (j + 1) by omega]
      refine ih (j + 1) (by omega) (fun u hu2 => ?_)
      by_cases e : u = j
      · subst e; exact ⟨g1, g2⟩
      · exact hu u (by omega)
    have go0 : (¬ tx_nc (T (p + 1 + j)) ∨ (T (p + 1 + j) = 46 ∧ T (p + 1 + (j + 1)) = 46)) → cd_W X m_Mod_isName kc ks 52 [some (.ref 82), some (.int (nI p)), some (.int (nI m)), some (.int 0), some (.int (nI (p + 1 + j) + 1)), none] [] h Q := by
      intro g
      refine sp_Mod_isName_0 F (h0 (fun nm => ?_))
      obtain ⟨_, n1, _, _, n2⟩ := nm
      rcases g with g | g
      · exact g (n1 j (by omega))
      · by_cases e : j + 1 < m
        · exact n2 j e g
        · have e2 : j + 1 = m := by omega
          rw [e2, hT] at g
          omega
    have dot : T (p + 1 + j) = 46 → cd_W X m_Mod_at 0 0 0 [some (.ref 82), some (.int (nI (p + 1 + j) + 1))] [] h (fun r16 h17 => ∃ x18 : Int32, r16 = some (.int x18) ∧ ((cm_ok h17) ∧ ((((x18 = 46) → (cd_W X m_Mod_isName kc ks 52 [some (.ref 82), some (.int (nI p)), some (.int (nI m)), some (.int 0), some (.int (nI (p + 1 + j) + 1)), none] [] h17 Q)) ∧ ((¬ x18 = 46) → (cd_W X m_Mod_isName kc ks 52 [some (.ref 82), some (.int (nI p)), some (.int (nI m)), some (.int 1), some (.int (nI (p + 1 + j) + 1)), none] [] h17 Q)))))) := by
      intro hd
      have : some (Value.int (nI (p + 1 + j) + 1)) = some (.int (nI (p + 1 + j + 1))) := by rw [nI_1]
      rw [this]
      refine sp_Mod_at F Z (by omega) ⟨_, rfl, F, fun hc => ?_, fun hc => ?_⟩
      · rw [hat2, cd_46, nI_eq (by omega) (by decide)] at hc
        have := go0 (Or.inr ⟨hd, hc⟩)
        rw [nI_1] at this
        exact this
      · rw [hat2, cd_46, nI_eq (by omega) (by decide)] at hc
        have := go1 (Or.inr (Or.inr hd)) (fun z => hc z.2)
        rw [nI_1] at this
        exact this
    refine g_Mod_isName_52 F ⟨fun hc => ?_, fun _ => ⟨fun hc => absurd hc (by decide), fun _ => ?_⟩⟩
    · rw [nI_add, nI_ltI (by omega) (by omega)] at hc
      omega
    · refine sp_Mod_at F Z (by omega) ⟨_, rfl, F, ?_⟩
      rw [hat, show (97 : Int32) = nI 97 by decide, nI_ltI (by omega) (by decide), show (122 : Int32) = nI 122 by decide, nI_leI (by omega) (by decide), cd_46, nI_eq (by omega) (by decide)]
      refine ⟨fun t1 => ?_, fun t1 => ⟨fun t2 => go1 (Or.inl ⟨by omega, t2⟩) (fun z => by omega), fun t2 => ?_⟩⟩
      · refine sp_Mod_digit F (by omega) ⟨_, rfl, F, fun t2 => ?_, fun t2 => ⟨fun t3 => ?_, fun t3 => ?_⟩⟩
        · by_cases hd : 48 ≤ T (p + 1 + j) ∧ T (p + 1 + j) ≤ 57
          · exact go1 (Or.inr (Or.inl hd)) (fun z => by omega)
          · rw [if_neg hd] at t2; exact absurd rfl t2
        · by_cases hd : 48 ≤ T (p + 1 + j) ∧ T (p + 1 + j) ≤ 57
          · rw [if_pos hd] at t2; exact absurd t2 (by decide)
          · exact go0 (Or.inl (fun z => by rcases z with z | z | z <;> omega))
        · have := dot t3
          rw [← cd_46]
          exact this
      · refine sp_Mod_digit F (by omega) ⟨_, rfl, F, fun t3 => ?_, fun t3 => ⟨fun t4 => ?_, fun t4 => by omega⟩⟩
        · rw [if_neg (by omega)] at t3; exact absurd rfl t3
        · exact go0 (Or.inl (fun z => by rcases z with z | z | z <;> omega))
theorem sp_Mod_isName (F : cm_ok h) (Z : cm_txt h T n) {p c : Nat} (hs : tx_s T n p = some c) (h1 : tx_nm T p (c - p - 2) → Q (some (.int 1)) h) (h0 : ¬ tx_nm T p (c - p - 2) → Q (some (.int 0)) h) : cd_W X m_Mod_isName kc ks 0 [some (.ref 82), some (.int (nI p)), none, none, none, none] [] h Q := by
  obtain ⟨a1, a2, a3, a4, a5, a6⟩ := tx_s_some hs
  have z1 := Z.1
  have z4 := Z.2.2.2
  refine g_Mod_isName F (sp_Mod_lengthAt F Z hs ⟨_, rfl, F, ?_⟩)
  rw [show (1 : Int32) = nI 1 by decide, nI_ltI (by omega) (by decide), show (12 : Int32) = nI 12 by decide, nI_ltI (by decide) (by omega)]
  refine ⟨fun t1 => sp_Mod_isName_0 F (h0 (fun z => by have := z.1; omega)), fun t1 => ⟨fun t2 => sp_Mod_isName_0 F (h0 (fun z => by have := z.1; omega)), fun t2 => ?_⟩⟩
  have hz := z4 (p + 1) (by omega)
  have hz2 := z4 (p + (c - p - 2)) (by omega)
  have e0 : some (Value.int (nI p + nI 1)) = some (.int (nI (p + 1))) := by rw [nI_add]
  rw [e0]
  refine sp_Mod_at F Z (by omega) ⟨_, rfl, F, fun hc => ?_, fun hc => ?_⟩
  · rw [tx_at, if_pos (by omega), cd_46, nI_eq (by omega) (by decide)] at hc
    exact sp_Mod_isName_0 F (h0 (fun z => z.2.2.1 hc))
  · rw [tx_at, if_pos (by omega), cd_46, nI_eq (by omega) (by decide)] at hc
    have e2 : some (Value.int (nI p + nI (c - p - 2))) = some (.int (nI (p + (c - p - 2)))) := by rw [nI_add]
    rw [e2]
    refine sp_Mod_at F Z (by omega) ⟨_, rfl, F, fun hd => ?_, fun hd => ?_⟩
    · rw [tx_at, if_pos (by omega), cd_46, nI_eq (by omega) (by decide)] at hd
      exact sp_Mod_isName_0 F (h0 (fun z => z.2.2.2.1 hd))
    · rw [tx_at, if_pos (by omega), cd_46, nI_eq (by omega) (by decide)] at hd
      exact sp_Mod_isName_52 F Z (by omega) (by omega) (by rw [show p + 1 + (c - p - 2) = c - 1 by omega]; exact a5) hc hd h1 h0 (c - p - 2) 0 (by omega) (fun u hu => by omega)
def tx_sm (T : Nat → Nat) (a b m m' : Nat) : Prop := m = m' ∧ ∀ j, j < m → T (a + 1 + j) = T (b + 1 + j)
theorem sp_Mod_sameText_0 (F : cm_ok h) {v1 v2 v3 v5 : Int32} (hq : Q (some (.int 0)) h) : cd_W X m_Mod_sameText kc ks 25 [some (.ref 82), some (.int v1), some (.int v2), some (.int v3), some (.int 0), some (.int v5)] [] h Q :=
  g_Mod_sameText_25 F ⟨fun _ => ⟨Or.inl rfl, hq⟩, fun _ => ⟨fun _ => ⟨Or.inl rfl, hq⟩, fun hc => absurd rfl hc⟩⟩
theorem sp_Mod_sameText_25 (F : cm_ok h) (Z : cm_txt h T n) {a b m : Nat} (ha : a + 1 + m < n) (hb : b + 1 + m < n) (h1 : tx_sm T a b m m → Q (some (.int 1)) h) (h0 : ¬ tx_sm T a b m m → Q (some (.int 0)) h) : ∀ (i j : Nat), i + j = m → (∀ u, u < j → T (a + 1 + u) = T (b + 1 + u)) → cd_W X m_Mod_sameText kc ks 25 [some (.ref 82), some (.int (nI a)), some (.int (nI b)), some (.int (nI m)), some (.int 1), some (.int (nI (j + 1)))] [] h Q := by
  have z1 := Z.1
  have z4 := Z.2.2.2
  intro i
  induction i with
  | zero =>
    intro j hj hu
    have e : j = m := by omega
    subst e
    refine g_Mod_sameText_25 F ⟨fun _ => ⟨Or.inr rfl, h1 ⟨rfl, hu⟩⟩, fun hc => absurd ?_ hc⟩
    rw [nI_ltI (by omega) (by omega)]
    omega
  | succ i ih =>
    intro j hj hu
    refine g_Mod_sameText_25 F ⟨fun hc => ?_, fun _ => ⟨fun hc => absurd hc (by decide), fun _ => ?_⟩⟩
    · rw [nI_ltI (by omega) (by omega)] at hc
      omega
    · rw [nI_add, nI_add, show a + (j + 1) = a + 1 + j by omega, show b + (j + 1) = b + 1 + j by omega]
      have y1 := z4 (a + 1 + j) (by omega)
      have y2 := z4 (b + 1 + j) (by omega)
      refine sp_Mod_at F Z (by omega) ⟨_, rfl, F, sp_Mod_at F Z (by omega) ⟨_, rfl, F, ?_⟩⟩
      rw [tx_at, if_pos (by omega), tx_at, if_pos (by omega), nI_eq (by omega) (by omega), nI_1]
      refine ⟨fun hc => sp_Mod_sameText_0 F (h0 (fun z => hc (z.2 j (by omega)))), fun hc => ih (j + 1) (by omega) (fun u hu2 => ?_)⟩
      by_cases e : u = j
      · subst e; exact hc
      · exact hu u (by omega)
theorem sp_Mod_sameText (F : cm_ok h) (Z : cm_txt h T n) {a b c d : Nat} (ha : tx_s T n a = some c) (hb : tx_s T n b = some d) (h1 : tx_sm T a b (c - a - 2) (d - b - 2) → Q (some (.int 1)) h) (h0 : ¬ tx_sm T a b (c - a - 2) (d - b - 2) → Q (some (.int 0)) h) : cd_W X m_Mod_sameText kc ks 0 [some (.ref 82), some (.int (nI a)), some (.int (nI b)), none, none, none] [] h Q := by
  obtain ⟨a1, a2, a3, a4, a5, a6⟩ := tx_s_some ha
  obtain ⟨b1, b2, b3, b4, b5, b6⟩ := tx_s_some hb
  have z1 := Z.1
  refine g_Mod_sameText F (sp_Mod_lengthAt F Z ha ⟨_, rfl, F, sp_Mod_lengthAt F Z hb ⟨_, rfl, F, ?_⟩⟩)
  rw [nI_eq (by omega) (by omega)]
  refine ⟨fun hc => sp_Mod_sameText_0 F (h0 (fun z => hc z.1)), fun hc => ?_⟩
  rw [← hc] at h1 h0
  exact sp_Mod_sameText_25 F Z (by omega) (by omega) h1 h0 (c - a - 2) 0 (by omega) (fun u hu => by omega)
def cm_nam (h : cd_H) (a : Nat) (N : Nat → Nat) (len : Nat) : Prop := len ≤ 12 ∧ cd_i h 99 a = nI len ∧ ∀ j, j < len → cd_i h 98 (12 * a + j) = nI (N j) ∧ N j < 65536
theorem sp_Mod_names_0 (F : cm_ok h) {v1 v4 : Int32} {a : Nat} (ha : a < 24) (hq : Q (some (.int 0)) h) : cd_W X m_Mod_names kc ks 23 [some (.ref 82), some (.int v1), some (.int (nI a)), some (.int 0), some (.int v4)] [] h Q :=
  g_Mod_names_23 F ⟨vp_in_nI ha (by decide), fun _ => ⟨Or.inl rfl, hq⟩, fun _ => ⟨fun _ => ⟨Or.inl rfl, hq⟩, fun hc => absurd rfl hc⟩⟩
theorem sp_Mod_names_23 (F : cm_ok h) (Z : cm_txt h T n) {p a len : Nat} {N : Nat → Nat} (A : cm_nam h a N len) (ha : a < 24) (hn : p + 1 + len < n) (h1 : (∀ j, j < len → T (p + 1 + j) = N j) → Q (some (.int 1)) h) (h0 : ¬ (∀ j, j < len → T (p + 1 + j) = N j) → Q (some (.int 0)) h) : ∀ (i j : Nat), i + j = len → (∀ u, u < j → T (p + 1 + u) = N u) → cd_W X m_Mod_names kc ks 23 [some (.ref 82), some (.int (nI p)), some (.int (nI a)), some (.int 1), some (.int (nI j))] [] h Q := by
  have z1 := Z.1
  have z4 := Z.2.2.2
  obtain ⟨l12, l1, l2⟩ := A
  intro i
  induction i with
  | zero =>
    intro j hj hu
    have e : j = len := by omega
    subst e
    refine g_Mod_names_23 F ⟨vp_in_nI ha (by decide), ?_⟩
    rw [nI_clamp (by omega), l1]
    exact ⟨fun _ => ⟨Or.inr rfl, h1 hu⟩, fun hc => absurd (nI_le (Nat.le_refl _) (by omega)) hc⟩
  | succ i ih =>
    intro j hj hu
    refine g_Mod_names_23 F ⟨vp_in_nI ha (by decide), ?_⟩
    rw [nI_clamp (by omega), l1]
    refine ⟨fun hc => ?_, fun _ => ⟨fun hc => absurd hc (by decide), fun _ => ?_⟩⟩
    · rw [nI_leI (by omega) (by omega)] at hc
      omega
    · rw [nI_1, nI_add]
      have y1 := z4 (p + 1 + j) (by omega)
      have y2 := l2 j (by omega)
      have e12 : (12 : Int32) * nI a + nI j = nI (12 * a + j) := by rw [show (12 : Int32) = nI 12 by decide, pk_mul, nI_add]
      refine sp_Mod_at F Z (by omega) ⟨_, rfl, F, ?_⟩
      rw [tx_at, if_pos (by omega), e12, nI_clamp (by omega), y2.1, nI_eq (by omega) (by omega), nI_1]
      refine ⟨vp_in_nI (by omega) (by decide), fun hc => sp_Mod_names_0 F ha (h0 (fun z => hc (z j (by omega)))), fun hc => ih (j + 1) (by omega) (fun u hu2 => ?_)⟩
      by_cases e : u = j
      · subst e; exact hc
      · exact hu u (by omega)
theorem sp_Mod_names (F : cm_ok h) (Z : cm_txt h T n) {p c a len : Nat} {N : Nat → Nat} (A : cm_nam h a N len) (ha : a < 24) (hs : tx_s T n p = some c) (h1 : (c = p + len + 2 ∧ ∀ j, j < len → T (p + 1 + j) = N j) → Q (some (.int 1)) h) (h0 : ¬ (c = p + len + 2 ∧ ∀ j, j < len → T (p + 1 + j) = N j) → Q (some (.int 0)) h) : cd_W X m_Mod_names kc ks 0 [some (.ref 82), some (.int (nI p)), some (.int (nI a)), none, none] [] h Q := by
  obtain ⟨a1, a2, a3, a4, a5, a6⟩ := tx_s_some hs
  have z1 := Z.1
  have l12 := A.1
  refine g_Mod_names F (sp_Mod_lengthAt F Z hs ⟨_, rfl, F, vp_in_nI ha (by decide), ?_⟩)
  rw [nI_clamp (by omega), A.2.1, nI_eq (by omega) (by omega)]
  refine ⟨fun hc => sp_Mod_names_0 F ha (h0 (fun z => hc (by omega))), fun hc => ?_⟩
  exact sp_Mod_names_23 F Z A ha (by omega) (fun z => h1 ⟨by omega, z⟩) (fun z => h0 (fun y => z y.2)) len 0 (by omega) (fun u hu => by omega)
end MNM
