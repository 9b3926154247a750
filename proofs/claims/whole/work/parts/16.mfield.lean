theorem lN_eqB {a b : Nat} (ha : a < 2 ^ 63) (hb : b < 2 ^ 63) : lN a = lN b ↔ a = b := by
  constructor
  · intro h
    have := congrArg Int64.toInt h
    rw [pf_lI ha, pf_lI hb] at this
    omega
  · intro h; rw [h]
theorem lN_m1 {a : Nat} (ha : a < 2 ^ 63) : ¬ (-1 : Int64) = lN a := by
  intro h
  have := congrArg Int64.toInt h
  rw [pf_lI ha, show (-1 : Int64).toInt = -1 by decide] at this
  omega
def cd_o (A : Nat) (h h' : cd_H) : Prop := cd_n h' = cd_n h ∧ cd_k h' = cd_k h ∧ cd_r h' = cd_r h ∧ cd_l h' = cd_l h ∧ ∀ a j, a ≠ A → cd_i h' a j = cd_i h a j
theorem cd_o.rf (A : Nat) (h : cd_H) : cd_o A h h := ⟨rfl, rfl, rfl, rfl, fun _ _ _ => rfl⟩
theorem cd_o.tr {A : Nat} {h h1 h2 : cd_H} (a : cd_o A h h1) (b : cd_o A h1 h2) : cd_o A h h2 := ⟨b.1.trans a.1, b.2.1.trans a.2.1, b.2.2.1.trans a.2.2.1, b.2.2.2.1.trans a.2.2.2.1, fun x j hx => (b.2.2.2.2 x j hx).trans (a.2.2.2.2 x j hx)⟩
theorem cd_o.si (A : Nat) (h : cd_H) (k : Nat) (x : Int32) : cd_o A h (cd_si h A k x) := ⟨rfl, rfl, rfl, rfl, fun a j hx => by rw [cd_i_si, if_neg (fun z => hx z.1)]⟩
theorem cd_o.mok {A : Nat} {h h' : cd_H} (a : cd_o A h h') (F : cm_ok h) : cm_ok h' := F.of a.2.1 a.2.2.1
theorem cd_o.mtxt {A : Nat} {h h' : cd_H} {T : Nat → Nat} {n : Nat} (a : cd_o A h h') (h1 : A ≠ 82) (h2 : A ≠ 83) (Z : cm_txt h T n) : cm_txt h' T n := ⟨Z.1, (a.2.2.2.2 82 2 (fun e => h1 e.symm)).trans Z.2.1, fun j hj => (a.2.2.2.2 83 j (fun e => h2 e.symm)).trans (Z.2.2.1 j hj), Z.2.2.2⟩
def tx_w (T : Nat → Nat) (p : Nat) : Nat → Nat
  | 0 => 0
  | m + 1 => 10 * tx_w T p m + (T (p + m) - 48)
theorem tx_w_lt {T : Nat → Nat} {p : Nat} : ∀ m, (∀ j, j < m → T (p + j) ≤ 57) → tx_w T p m < 10 ^ m := by
  intro m
  induction m with
  | zero => intro _; simp [tx_w]
  | succ m ih =>
    intro h
    have h1 := ih (fun j hj => h j (by omega))
    have h2 := h m (by omega)
    rw [tx_w, Nat.pow_succ]
    omega
def tx_num (T : Nat → Nat) (n : Nat) (o : Option Nat) : Option Nat := match o with
  | none => none
  | some v => if v < n ∧ 48 ≤ T v ∧ T v ≤ 57 then some (tx_w T v (tx_A T n v - v)) else none
theorem tx_A_dig {T : Nat → Nat} {n : Nat} : ∀ (m p : Nat), n - p = m → ∀ j, p ≤ j → j < tx_A T n p → j < n ∧ 48 ≤ T j ∧ T j ≤ 57 := by
  intro m
  induction m with
  | zero =>
    intro p hm j h1 h2
    rw [tx_A, if_neg (by omega)] at h2
    omega
  | succ m ih =>
    intro p hm j h1 h2
    rw [tx_A] at h2
    split at h2
    · rename_i hc
      by_cases hj : j = p
      · subst hj; exact hc
      · exact ih (p + 1) (by omega) j (by omega) h2
    · omega
theorem tx_W_A {T : Nat → Nat} {n v e : Nat} (h : tx_W T n v = some e) (hd : 48 ≤ T v ∧ T v ≤ 57) : v < tx_A T n v ∧ tx_A T n v ≤ v + 9 ∧ tx_A T n v ≤ n := by
  have h1 := tx_W_num h (by omega) (by omega) (by omega)
  have h2 := tx_m_some h1
  rw [tx_m] at h1
  split at h1
  · cases h1
  · omega
theorem tx_num_lt {T : Nat → Nat} {n v e x : Nat} (h : tx_W T n v = some e) (hx : tx_num T n (some v) = some x) : x < 10 ^ 9 := by
  rw [tx_num] at hx
  split at hx
  · rename_i hd
    cases hx
    have hA := tx_W_A h hd.2
    have := tx_w_lt (T := T) (p := v) (tx_A T n v - v) (fun j hj => (tx_A_dig (T := T) (n := n) (n - v) v rfl (v + j) (by omega) (by omega)).2.2)
    exact Nat.lt_of_lt_of_le this (Nat.pow_le_pow_right (by decide) (by omega))
  · cases hx
def tx_Z (T : Nat → Nat) (n : Nat) : Nat → Nat → Option (List Nat)
  | 0, _ => none
  | k + 1, p => if p < n ∧ T p = 34 then (match tx_s T n p with
    | none => none
    | some c => if c < n ∧ T c = 93 then some [p] else (tx_Z T n k (c + 1)).map (fun l => p :: l)) else none
def tx_z (T : Nat → Nat) (n : Nat) (o : Option Nat) : Option (List Nat) := match o with
  | none => none
  | some v => if v < n ∧ T v = 91 then (if v + 1 < n ∧ T (v + 1) = 93 then some [] else tx_Z T n 96 (v + 1)) else none
def tx_lo (o : Option (List Nat)) : Int32 := cd_op (o.map List.length)
def tx_nc (c : Nat) : Prop := (97 ≤ c ∧ c ≤ 122) ∨ (48 ≤ c ∧ c ≤ 57) ∨ c = 46
def tx_nm (T : Nat → Nat) (p m : Nat) : Prop := (1 ≤ m ∧ m ≤ 12) ∧ (∀ j, j < m → tx_nc (T (p + 1 + j))) ∧ ¬ T (p + 1) = 46 ∧ ¬ T (p + m) = 46 ∧ ∀ j, j + 1 < m → ¬ (T (p + 1 + j) = 46 ∧ T (p + 1 + (j + 1)) = 46)
section MF2
variable {X : cd_E} {kc ks : Nat} {h : cd_H} {Q : Option Value → cd_H → Prop} {T : Nat → Nat} {n : Nat}
theorem sp_Mod_packed_29 (F : cm_ok h) (Z : cm_txt h T n) {a m : Nat} (hn : a + m ≤ n) (hm : m ≤ 8) (hq : Q (some (.long (lN (tx_k T a m)))) h) : ∀ (i j : Nat), i + j = m → cd_W X m_Mod_packed kc ks 29 [some (.ref 82), none, some (.long (lN (tx_k T a j))), none, some (.int (nI (a + m))), some (.int (nI (a + j)))] [] h Q := by
  obtain ⟨z1, z2, z3, z4⟩ := Z
  intro i
  induction i with
  | zero =>
    intro j hj
    have : j = m := by omega
    subst this
    exact g_Mod_packed_29 F ⟨fun _ => hq, fun hc => absurd (nI_le (Nat.le_refl _) (by omega)) hc⟩
  | succ i ih =>
    intro j hj
    have hz := z4 (a + j) (by omega)
    refine g_Mod_packed_29 F ⟨fun hc => ?_, fun _ => ⟨vp_in_nI (by omega) (by decide), ?_⟩⟩
    · rw [nI_leI (by omega) (by omega)] at hc
      omega
    · rw [nI_clamp (by omega), z3 _ (by omega), nI_l (by omega), show (128 : Int64) = lN 128 by decide, lN_mul, lN_add, nI_1, show a + j + 1 = a + (j + 1) by omega]
      exact ih (j + 1) (by omega)
theorem sp_Mod_packed (F : cm_ok h) (Z : cm_txt h T n) {p c : Nat} (hs : tx_s T n p = some c) (h1 : c ≤ p + 10 → Q (some (.long (lN (tx_k T (p + 1) (c - p - 2))))) h) (h0 : p + 10 < c → Q (some (.long (-1))) h) : cd_W X m_Mod_packed kc ks 0 [some (.ref 82), some (.int (nI p)), none, none, none, none] [] h Q := by
  obtain ⟨a1, a2, a3, a4, a5, a6⟩ := tx_s_some hs
  have z1 := Z.1
  refine g_Mod_packed F (sp_Mod_stringEnd F Z a3 ?_)
  rw [hs]
  have e1 : cd_op (some c) - 1 = nI (c - 1) := by
    show nI c - nI 1 = _
    exact pk_sub (by omega)
  refine ⟨_, rfl, F, fun hc => ?_, fun hc => ?_⟩
  · rw [e1, pk_sub (by omega), show (9 : Int32) = nI 9 by decide, nI_leI (by omega) (by decide)] at hc
    rw [e1, nI_1, show c - 1 = (p + 1) + (c - p - 2) by omega]
    exact sp_Mod_packed_29 (a := p + 1) (m := c - p - 2) F Z (by omega) (by omega) (h1 (by omega)) (c - p - 2) 0 (by omega)
  · rw [e1, pk_sub (by omega), show (9 : Int32) = nI 9 by decide, nI_leI (by omega) (by decide)] at hc
    exact h0 (by omega)
theorem sp_Mod_field_5 (F : cm_ok h) (Z : cm_txt h T n) {N : Nat → Nat} {len : Nat} (hl : len ≤ 8) (hN : ∀ j, j < len → 0 < N j ∧ N j < 128) : ∀ k p e0, tx_L T n (tx_W T n) 125 k p = some e0 → Q (some (.int (cd_op (tx_F T n N len k p)))) h → cd_W X m_Mod_field kc ks 5 [some (.ref 82), none, some (.long (lN (tx_k N 0 len))), none, some (.int (nI p)), none] [] h Q := by
  have z1 := Z.1
  have z4 := Z.2.2.2
  have hkN : tx_k N 0 len < 2 ^ 56 := by
    have := tx_k_lt (T := N) (a := 0) len (fun j hj => by rw [Nat.zero_add]; exact (hN j hj).2)
    have h2 : (128 : Nat) ^ len ≤ 128 ^ 8 := Nat.pow_le_pow_right (by decide) hl
    have h3 : (128 : Nat) ^ 8 = 2 ^ 56 := by decide
    omega
  intro k
  induction k with
  | zero => intro p e0 h _; cases h
  | succ k ih =>
    intro p e0 hL hq
    obtain ⟨c, x, s1, s2, s3, s4, s5, s6⟩ := tx_L_obj hL
    obtain ⟨a1, a2, a3, a4, a5, a6⟩ := tx_s_some s1
    have hat : tx_at T n p = 34 := by rw [tx_at, if_pos a3]; exact a4
    rw [tx_F, s1] at hq
    simp only at hq
    refine g_Mod_field_5 F ⟨fun hc => ?_, fun _ => ?_⟩
    · rw [Z.2.1, nI_leI (by omega) (by omega)] at hc
      omega
    · refine sp_Mod_at F Z (by omega) ⟨_, rfl, F, fun hc => ?_, fun _ => ?_⟩
      · rw [hat] at hc; exact absurd hc (by decide)
      · refine sp_Mod_stringEnd F Z a3 ?_
        rw [s1]
        refine ⟨_, rfl, F, ?_⟩
        have hspell : c ≤ p + 10 → (lN (tx_k T (p + 1) (c - p - 2)) = lN (tx_k N 0 len) ↔ (c = p + len + 2 ∧ ∀ j, j < len → T (p + 1 + j) = N j)) := by
          intro hle
          have h1 := tx_k_lt (T := T) (a := p + 1) (c - p - 2) (fun j hj => by have := z4 (p + 1 + j) (by omega); omega)
          have h2 : (128 : Nat) ^ (c - p - 2) ≤ 128 ^ 8 := Nat.pow_le_pow_right (by decide) (by omega)
          have h3 : (128 : Nat) ^ 8 = 2 ^ 56 := by decide
          rw [lN_eqB (by omega) (by omega), tx_k_inj (T := T) (N := N) (a := p + 1) (b := 0) (c - p - 2) len (fun j hj => by have := z4 (p + 1 + j) (by omega); omega) (fun j hj => by rw [Nat.zero_add]; exact hN j hj)]
          constructor
          · rintro ⟨b1, b2⟩
            exact ⟨by omega, fun j hj => by have := b2 j (by omega); rw [Nat.zero_add] at this; exact this⟩
          · rintro ⟨b1, b2⟩
            exact ⟨by omega, fun j hj => by rw [Nat.zero_add]; exact b2 j (by omega)⟩
        have go : ¬ (c = p + len + 2 ∧ ∀ j, j < len → T (p + 1 + j) = N j) → cd_W X m_Mod_valueEnd 0 0 0 [some (.ref 82), some (.int (cd_op (some c) + 1)), none, none, none] [] h (fun r16 h17 => ∃ x18 : Int32, r16 = some (.int x18) ∧ ((cm_ok h17) ∧ (cd_W X m_Mod_at 0 0 0 [some (.ref 82), some (.int x18)] [] h17 (fun r20 h21 => ∃ x22 : Int32, r20 = some (.int x22) ∧ ((cm_ok h21) ∧ ((((¬ x22 = 44) → (cd_W X m_Mod_field kc ks 5 [some (.ref 82), none, some (.long (lN (tx_k N 0 len))), none, some (.int x18), none] [] h21 Q)) ∧ ((x22 = 44) → (cd_W X m_Mod_field kc ks 5 [some (.ref 82), none, some (.long (lN (tx_k N 0 len))), none, some (.int (x18 + 1)), none] [] h21 Q))))))))) := by
          intro hne
          rw [if_neg hne, s4] at hq
          simp only at hq
          show cd_W X m_Mod_valueEnd 0 0 0 [some (.ref 82), some (.int (nI c + 1)), none, none, none] [] h _
          rw [nI_1]
          refine sp_Mod_valueEnd F Z s4 ⟨_, rfl, F, sp_Mod_at F Z (by omega) ⟨_, rfl, F, fun hc => ?_, fun hc => ?_⟩⟩
          · have hz := z4 x s5
            rw [tx_at, if_pos s5, cd_44, nI_eq (by omega) (by decide)] at hc
            rw [if_neg (fun z => hc z.2)] at hq
            have hx : T x = 125 := by
              rcases s6 with ⟨h6, _⟩ | ⟨h6, _⟩
              · exact h6
              · exact absurd h6 hc
            refine g_Mod_field_5 F ⟨fun _ => hq, fun _ => ?_⟩
            refine sp_Mod_at F Z (by omega) ⟨_, rfl, F, fun _ => hq, fun hd => ?_⟩
            rw [tx_at, if_pos s5, hx] at hd
            exact absurd (by decide) hd
          · have hz := z4 x s5
            rw [tx_at, if_pos s5, cd_44, nI_eq (by omega) (by decide)] at hc
            rw [if_pos ⟨s5, hc⟩] at hq
            rw [nI_1]
            rcases s6 with ⟨h6, _⟩ | ⟨_, h6⟩
            · omega
            · exact ih (x + 1) e0 h6 hq
        refine sp_Mod_packed F Z s1 (fun hle => ⟨_, rfl, F, fun hd => ?_, fun hd => ?_⟩) (fun hgt => ⟨_, rfl, F, fun _ => ?_, fun hd => ?_⟩)
        · rw [lg_cmp_eq, hspell hle] at hd
          exact go hd
        · rw [lg_cmp_eq, hspell hle] at hd
          rw [if_pos hd] at hq
          show Q (some (.int (nI c + 1))) h
          rw [nI_1]
          exact hq
        · exact go (fun z => by omega)
        · rw [lg_cmp_eq] at hd
          exact absurd hd (lN_m1 (by omega))
theorem sp_Mod_field (F : cm_ok h) (Z : cm_txt h T n) {N : Nat → Nat} {len k e : Nat} (hl : len ≤ 8) (hN : ∀ j, j < len → 0 < N j ∧ N j < 128) (hW : tx_W T n k = some e) (hT : T k = 123) (hq : Q (some (.int (cd_op (tx_f T n N len (some k))))) h) : cd_W X m_Mod_field kc ks 0 [some (.ref 82), some (.int (nI k)), some (.long (lN (tx_k N 0 len))), none, none, none] [] h Q := by
  have z1 := Z.1
  have hk := tx_W_lt hW
  rw [tx_f] at hq
  rw [if_pos ⟨hk.1, hT⟩] at hq
  refine g_Mod_field F ?_
  rw [nI_1]
  rcases tx_W_obj hW hk.1 hT with ⟨b1, b2, _⟩ | ⟨b1, b2⟩
  · have hs : tx_s T n (k + 1) = none := by rw [tx_s, if_neg (by omega)]
    rw [tx_F, hs] at hq
    refine g_Mod_field_5 F ⟨fun _ => hq, fun _ => ?_⟩
    refine sp_Mod_at F Z (by omega) ⟨_, rfl, F, fun _ => hq, fun hd => ?_⟩
    rw [tx_at, if_pos b1, b2] at hd
    exact absurd (by decide) hd
  · exact sp_Mod_field_5 F Z hl hN 96 (k + 1) e b2 hq
theorem sp_Mod_numberAt_21 (F : cm_ok h) (Z : cm_txt h T n) {p : Nat} (hA : tx_A T n p ≤ p + 9) (hA2 : tx_A T n p ≤ n) (hq : Q (some (.int (nI (tx_w T p (tx_A T n p - p))))) h) : ∀ (m i : Nat), n - i = m → p ≤ i → i ≤ tx_A T n p → tx_A T n i = tx_A T n p → cd_W X m_Mod_numberAt kc ks 21 [some (.ref 82), none, some (.int (nI (tx_w T p (i - p)))), some (.int (nI i))] [] h Q := by
  obtain ⟨z1, z2, z3, z4⟩ := Z
  have Z : cm_txt h T n := ⟨z1, z2, z3, z4⟩
  intro m
  induction m with
  | zero =>
    intro i hm h1 h2 h3
    have hat : tx_at T n i = 32 := by rw [tx_at, if_neg (by omega)]
    refine g_Mod_numberAt_21 F (sp_Mod_at F Z (by omega) ⟨_, rfl, F, sp_Mod_digit F (by rw [hat]; decide) ⟨_, rfl, F, fun _ => ?_, fun hc => ?_⟩⟩)
    · rw [tx_A, if_neg (by omega)] at h3
      rw [← h3] at hq
      exact hq
    · rw [hat, if_neg (by decide)] at hc
      exact absurd rfl hc
  | succ m ih =>
    intro i hm h1 h2 h3
    have hi : i < n := by omega
    have hz := z4 i hi
    have hat : tx_at T n i = T i := by rw [tx_at, if_pos hi]
    refine g_Mod_numberAt_21 F (sp_Mod_at F Z (by omega) ⟨_, rfl, F, sp_Mod_digit F (by rw [hat]; omega) ⟨_, rfl, F, fun hc => ?_, fun hc => ?_⟩⟩)
    · rw [hat] at hc
      by_cases hd : 48 ≤ T i ∧ T i ≤ 57
      · rw [if_pos hd] at hc; exact absurd hc (by decide)
      · rw [tx_A, if_neg (fun z => hd z.2)] at h3
        rw [← h3] at hq
        exact hq
    · rw [hat] at hc
      by_cases hd : 48 ≤ T i ∧ T i ≤ 57
      · rw [tx_A, if_pos ⟨hi, hd⟩] at h3
        have hg := (tx_A_ge (T := T) (n := n) (n - (i + 1)) (i + 1) rfl).1
        refine ⟨vp_in_nI (by omega) (by decide), ?_⟩
        rw [nI_clamp (by omega), z3 i hi, show (10 : Int32) = nI 10 by decide, pk_mul, nI_add, show (48 : Int32) = nI 48 by decide, pk_sub (by omega), nI_1]
        have e1 : 10 * tx_w T p (i - p) + T i - 48 = tx_w T p (i + 1 - p) := by
          rw [show i + 1 - p = (i - p) + 1 by omega, tx_w, show p + (i - p) = i by omega]
          omega
        rw [e1]
        exact ih (i + 1) (by omega) (by omega) (by omega) h3
      · rw [if_neg hd] at hc; exact absurd rfl hc
theorem sp_Mod_numberAt (F : cm_ok h) (Z : cm_txt h T n) {o : Option Nat} (ho : ∀ v, o = some v → ∃ e, tx_W T n v = some e) (hq : Q (some (.int (cd_op (tx_num T n o)))) h) : cd_W X m_Mod_numberAt kc ks 0 [some (.ref 82), some (.int (cd_op o)), none, none] [] h Q := by
  have z1 := Z.1
  cases o with
  | none => exact g_Mod_numberAt F ⟨fun _ => hq, fun hc => absurd cd_op_neg hc⟩
  | some v =>
    obtain ⟨e, hW⟩ := ho v rfl
    have hv := (tx_W_lt hW).1
    have hz := Z.2.2.2 v hv
    have hat : tx_at T n v = T v := by rw [tx_at, if_pos hv]
    refine g_Mod_numberAt F ⟨fun hc => absurd hc (cd_op_pos (by omega)), fun _ => ?_⟩
    show cd_W X m_Mod_at 0 0 0 [some (.ref 82), some (.int (nI v))] [] h _
    refine sp_Mod_at F Z (by omega) ⟨_, rfl, F, sp_Mod_digit F (by rw [hat]; omega) ⟨_, rfl, F, fun hc => ?_, fun hc => ?_⟩⟩
    · rw [hat] at hc
      by_cases hd : 48 ≤ T v ∧ T v ≤ 57
      · rw [tx_num] at hq
        rw [if_pos ⟨hv, hd⟩] at hq
        have hA := tx_W_A hW hd
        have := sp_Mod_numberAt_21 (X := X) (kc := kc) (ks := ks) (Q := Q) F Z hA.2.1 hA.2.2 hq (n - v) v rfl (Nat.le_refl _) (by omega) rfl
        rw [Nat.sub_self] at this
        exact this
      · rw [if_neg hd] at hc; exact absurd rfl hc
    · rw [hat] at hc
      by_cases hd : 48 ≤ T v ∧ T v ≤ 57
      · rw [if_pos hd] at hc; exact absurd hc (by decide)
      · rw [tx_num] at hq
        rw [if_neg (fun z => hd z.2)] at hq
        exact hq
end MF2
