theorem cd_o.cok {A : Nat} {h h' : cd_H} (a : cd_o A h h') (F : cc_ok h) : cc_ok h' := F.of a.2.1 a.2.2.1
theorem cd_o.ctxt {A : Nat} {h h' : cd_H} {T : Nat → Nat} {n : Nat} (a : cd_o A h h') (h1 : A ≠ 71) (h2 : A ≠ 72) (Z : cc_txt h T n) : cc_txt h' T n := ⟨Z.1, (a.2.2.2.2 71 1 (fun e => h1 e.symm)).trans Z.2.1, fun j hj => (a.2.2.2.2 72 j (fun e => h2 e.symm)).trans (Z.2.2.1 j hj), Z.2.2.2⟩
section CF2
variable {X : cd_E} {kc ks : Nat} {h : cd_H} {Q : Option Value → cd_H → Prop} {T : Nat → Nat} {n : Nat}
theorem sp_Not_isObject (F : cc_ok h) (Z : cc_txt h T n) (h1 : (0 < n ∧ T 0 = 123 ∧ tx_V T n (tx_n T n) 7 0 0 = some n) → Q (some (.int 1)) h) (h0 : ¬ (0 < n ∧ T 0 = 123 ∧ tx_V T n (tx_n T n) 7 0 0 = some n) → Q (some (.int 0)) h) : cd_W X m_Not_isObject kc ks 0 [some (.ref 71)] [] h Q := by
  have z1 := Z.1
  refine g_Not_isObject F ?_
  show cd_W X m_Not_has 0 0 0 [some (.ref 71), some (.int (cd_op (some 0))), some (.int (nI 123))] [] h _
  refine sp_Not_has F Z (fun p e => by cases e; decide) (by decide) (fun hh => ⟨_, rfl, F, fun hn => absurd hn (by decide), fun _ => ?_⟩) (fun hh => ⟨_, rfl, F, fun _ => ?_, fun hn => absurd rfl hn⟩)
  · obtain ⟨q, e1, hp, hT⟩ := hh
    cases e1
    show cd_W X (m_Not_endOfValue 6) 0 0 0 [some (.ref 71), some (.int (nI 0)), some (.int (nI 0))] [] h _
    refine sp_Not_endOfValue F Z 6 0 0 _ 0 0 rfl (by decide) (by decide) ⟨_, rfl, F, ?_⟩
    rw [Z.2.1]
    cases hv : tx_V T n (tx_n T n) (6 + 1) 0 0 with
    | none =>
      have hne : ¬ cd_op none = nI n := by
        intro e
        have := cd_op_neg
        rw [e] at this
        exact nI_pos (by omega) this
      refine ⟨fun _ => h0 (fun z => ?_), fun hc => absurd hc hne⟩
      rw [hv] at z
      cases z.2.2
    | some q =>
      have hqn : q ≤ n := tx_V_le (fun _ _ => tx_n_le) hv
      show (¬ nI q = nI n → _) ∧ (nI q = nI n → _)
      rw [nI_eq (by omega) (by omega)]
      refine ⟨fun hc => h0 (fun z => ?_), fun hc => h1 ⟨hp, hT, ?_⟩⟩
      · rw [hv] at z
        exact hc (Option.some.inj z.2.2)
      · rw [hc] at hv; exact hv
  · exact h0 (fun z => hh ⟨0, rfl, z.1, z.2.1⟩)
theorem sp_Not_hasDigit_m1 (F : cc_ok h) (hq : Q (some (.int 0)) h) : cd_W X m_Not_hasDigit kc ks 0 [some (.ref 71), some (.int (-1))] [] h Q :=
  g_Not_hasDigit F ⟨fun _ => hq, fun hc => absurd (by decide) hc⟩
theorem sp_Not_stringLength (F : cc_ok h) (Z : cc_txt h T n) {p c : Nat} (hs : tx_s T n p = some c) (hq : Q (some (.int (nI (c - p - 2)))) h) : cd_W X m_Not_stringLength kc ks 0 [some (.ref 71), some (.int (nI p)), none] [] h Q := by
  obtain ⟨a1, a2, a3, a4, a5, a6⟩ := tx_s_some hs
  have z1 := Z.1
  refine g_Not_stringLength F ?_
  refine sp_Not_endOfString (o := some p) F Z (fun q e => by cases e; omega) ?_
  rw [show (some p).bind (tx_s T n) = some c from hs]
  refine ⟨_, rfl, F, fun _ => ?_, fun hc => ?_⟩
  · show Q (some (.int (nI c - nI p - nI 2))) h
    rw [pk_sub (by omega), pk_sub (by omega)]
    exact hq
  · have := cd_op_pos (q := c) (by omega)
    rw [hc] at this
    exact absurd (by decide) this
theorem sp_Not_areSame_24 (F : cc_ok h) (Z : cc_txt h T n) {a b m : Nat} (ha : a + 1 + m < n) (hb : b + 1 + m < n) (h1 : tx_sm T a b m m → Q (some (.int 1)) h) (h0 : ¬ tx_sm T a b m m → Q (some (.int 0)) h) : ∀ (i j : Nat), i + j = m → (∀ u, u < j → T (a + 1 + u) = T (b + 1 + u)) → cd_W X m_Not_areSame kc ks 24 [some (.ref 71), some (.int (nI a)), some (.int (nI b)), some (.int (nI m)), some (.int (nI (j + 1)))] [] h Q := by
  obtain ⟨z1, z2, z3, z4⟩ := Z
  intro i
  induction i with
  | zero =>
    intro j hj hu
    have e : j = m := by omega
    subst e
    refine g_Not_areSame_24 F ⟨fun _ => h1 ⟨rfl, hu⟩, fun hc => absurd ?_ hc⟩
    rw [nI_ltI (by omega) (by omega)]
    omega
  | succ i ih =>
    intro j hj hu
    refine g_Not_areSame_24 F ⟨fun hc => ?_, fun _ => ?_⟩
    · rw [nI_ltI (by omega) (by omega)] at hc
      omega
    · rw [nI_add, nI_add, show a + (j + 1) = a + 1 + j by omega, show b + (j + 1) = b + 1 + j by omega]
      have y1 := z4 (a + 1 + j) (by omega)
      have y2 := z4 (b + 1 + j) (by omega)
      refine ⟨vp_in_nI (by omega) (by decide), vp_in_nI (by omega) (by decide), ?_⟩
      rw [nI_clamp (by omega), nI_clamp (by omega), z3 _ (by omega), z3 _ (by omega), nI_eq (by omega) (by omega), nI_1]
      refine ⟨fun hc => ih (j + 1) (by omega) (fun u hu2 => ?_), fun hc => h0 (fun z => hc (z.2 j (by omega)))⟩
      by_cases e : u = j
      · subst e; exact hc
      · exact hu u (by omega)
theorem sp_Not_areSame (F : cc_ok h) (Z : cc_txt h T n) {a b c d : Nat} (ha : tx_s T n a = some c) (hb : tx_s T n b = some d) (h1 : tx_sm T a b (c - a - 2) (d - b - 2) → Q (some (.int 1)) h) (h0 : ¬ tx_sm T a b (c - a - 2) (d - b - 2) → Q (some (.int 0)) h) : cd_W X m_Not_areSame kc ks 0 [some (.ref 71), some (.int (nI a)), some (.int (nI b)), none, none] [] h Q := by
  obtain ⟨a1, a2, a3, a4, a5, a6⟩ := tx_s_some ha
  obtain ⟨b1, b2, b3, b4, b5, b6⟩ := tx_s_some hb
  have z1 := Z.1
  refine g_Not_areSame F (sp_Not_stringLength F Z ha ⟨_, rfl, F, fun hc => absurd hc (nI_pos (by omega)), fun _ => sp_Not_stringLength F Z hb ⟨_, rfl, F, ?_⟩⟩)
  rw [nI_eq (by omega) (by omega)]
  refine ⟨fun hc => ?_, fun hc => h0 (fun z => hc z.1)⟩
  rw [← hc] at h1 h0
  exact sp_Not_areSame_24 F Z (by omega) (by omega) h1 h0 (c - a - 2) 0 (by omega) (fun u hu => by omega)
theorem sp_Not_isName_24 (F : cc_ok h) (Z : cc_txt h T n) {p m : Nat} (hm : 1 ≤ m ∧ m ≤ 12) (hn : p + 1 + m < n) (h1 : tx_nm T p m → Q (some (.int 1)) h) (h0 : ¬ tx_nm T p m → Q (some (.int 0)) h) : ∀ (i j : Nat) (v3 : Int32), i + j = m → ((j = 0 ∨ T (p + j) = 46) → v3 = 1) → (¬ (j = 0 ∨ T (p + j) = 46) → v3 = 0) → (∀ u, u < j → tx_nc (T (p + 1 + u))) → (∀ u, u + 1 < j → ¬ (T (p + 1 + u) = 46 ∧ T (p + 1 + (u + 1)) = 46)) → (0 < j → ¬ T (p + 1) = 46) → cd_W X m_Not_isName kc ks 24 [some (.ref 71), some (.int (nI p)), some (.int (nI m)), some (.int v3), some (.int (nI (j + 1))), none, none, none] [] h Q := by
  obtain ⟨z1, z2, z3, z4⟩ := Z
  intro i
  induction i with
  | zero =>
    intro j v3 hj hd1 hd0 hu1 hu2 hu3
    have e : j = m := by omega
    subst e
    refine g_Not_isName_24 F ⟨fun _ => ⟨fun hc => h0 (fun z => ?_), fun hc => h1 ⟨hm, hu1, hu3 (by omega), fun hd => ?_, hu2⟩⟩, fun hc => absurd ?_ hc⟩
    · exact hc (hd0 (fun y => by rcases y with y | y; omega; exact z.2.2.2.1 y))
    · rw [hd1 (Or.inr hd)] at hc
      exact absurd hc (by decide)
    · rw [nI_ltI (by omega) (by omega)]
      omega
  | succ i ih =>
    intro j v3 hj hd1 hd0 hu1 hu2 hu3
    have hz := z4 (p + 1 + j) (by omega)
    have bad : ¬ tx_nc (T (p + 1 + j)) → Q (some (.int 0)) h := fun hb => h0 (fun z => hb (z.2.1 j (by omega)))
    have good : ¬ T (p + 1 + j) = 46 → tx_nc (T (p + 1 + j)) → cd_W X m_Not_isName kc ks 24 [some (.ref 71), some (.int (nI p)), some (.int (nI m)), some (.int 0), some (.int (nI (j + 1) + 1)), none, none, none] [] h Q := by
      intro g1 g2
      rw [nI_1]
      refine ih (j + 1) 0 (by omega) (fun y => ?_) (fun _ => rfl) (fun u hu => ?_) (fun u hu => ?_) (fun _ => ?_)
      · rcases y with y | y
        · omega
        · rw [show p + (j + 1) = p + 1 + j by omega] at y; exact absurd y g1
      · by_cases e : u = j
        · subst e; exact g2
        · exact hu1 u (by omega)
      · by_cases e : u + 1 = j
        · intro z; rw [e] at z; exact g1 z.2
        · exact hu2 u (by omega)
      · by_cases e : j = 0
        · subst e; exact g1
        · exact hu3 (by omega)
    have dot0 : T (p + 1 + j) = 46 → ¬ v3 = 0 → Q (some (.int 0)) h := by
      intro g1 g2
      refine h0 (fun z => g2 (hd0 (fun y => ?_)))
      rcases y with y | y
      · subst y; exact z.2.2.1 g1
      · by_cases e : j = 0
        · subst e; exact z.2.2.1 g1
        · refine z.2.2.2.2 (j - 1) (by omega) ⟨?_, ?_⟩
          · rw [show p + 1 + (j - 1) = p + j by omega]; exact y
          · rw [show p + 1 + (j - 1 + 1) = p + 1 + j by omega]; exact g1
    have dot1 : T (p + 1 + j) = 46 → v3 = 0 → cd_W X m_Not_isName kc ks 24 [some (.ref 71), some (.int (nI p)), some (.int (nI m)), some (.int 1), some (.int (nI (j + 1) + 1)), none, none, none] [] h Q := by
      intro g1 g2
      have hnd : ¬ (j = 0 ∨ T (p + j) = 46) := fun y => by
        have := hd1 y
        rw [g2] at this
        exact absurd this (by decide)
      rw [nI_1]
      refine ih (j + 1) 1 (by omega) (fun _ => rfl) (fun y => absurd (Or.inr (by rw [show p + (j + 1) = p + 1 + j by omega]; exact g1)) y) (fun u hu => ?_) (fun u hu => ?_) (fun _ => ?_)
      · by_cases e : u = j
        · subst e; exact Or.inr (Or.inr g1)
        · exact hu1 u (by omega)
      · by_cases e : u + 1 = j
        · intro z
          refine hnd (Or.inr ?_)
          rw [show p + j = p + 1 + u by omega]
          exact z.1
        · exact hu2 u (by omega)
      · exact hu3 (by omega)
    refine g_Not_isName_24 F ⟨fun hc => ?_, fun _ => ?_⟩
    · rw [nI_ltI (by omega) (by omega)] at hc
      omega
    · rw [nI_add, show p + (j + 1) = p + 1 + j by omega]
      refine ⟨vp_in_nI (by omega) (by decide), ?_⟩
      rw [nI_clamp (by omega), z3 _ (by omega), show (97 : Int32) = nI 97 by decide, nI_ltI (by omega) (by decide), show (122 : Int32) = nI 122 by decide, nI_leI (by omega) (by decide), cd_46, nI_eq (by omega) (by decide), show (48 : Int32) = nI 48 by decide, nI_ltI (by omega) (by decide), show (57 : Int32) = nI 57 by decide, nI_ltI (by decide) (by omega)]
      refine ⟨fun t0 => ⟨fun t1 => ⟨fun t2 => bad (fun z => ?_), fun t2 => ⟨fun t3 => bad (fun z => ?_), fun t3 => good t0 (Or.inr (Or.inl (by omega)))⟩⟩, fun t1 => ⟨fun t2 => good t0 (Or.inl (by omega)), fun t2 => ⟨fun t3 => by omega, fun t3 => ⟨fun t4 => bad (fun z => ?_), fun t4 => by omega⟩⟩⟩⟩, fun t0 => ⟨fun t1 => ⟨fun t2 => ⟨fun t3 => dot1 t0 t3, fun t3 => dot0 t0 t3⟩, fun t2 => by omega⟩, fun t1 => by omega⟩⟩
      · rcases z with z | z | z <;> omega
      · rcases z with z | z | z <;> omega
      · rcases z with z | z | z <;> omega
theorem sp_Not_isName (F : cc_ok h) (Z : cc_txt h T n) {p c : Nat} (hs : tx_s T n p = some c) (h1 : tx_nm T p (c - p - 2) → Q (some (.int 1)) h) (h0 : ¬ tx_nm T p (c - p - 2) → Q (some (.int 0)) h) : cd_W X m_Not_isName kc ks 0 [some (.ref 71), some (.int (nI p)), none, none, none, none, none, none] [] h Q := by
  obtain ⟨a1, a2, a3, a4, a5, a6⟩ := tx_s_some hs
  have z1 := Z.1
  refine g_Not_isName F (sp_Not_stringLength F Z hs ⟨_, rfl, F, fun hc => ?_, fun hc => ⟨fun hd => ?_, fun hd => ?_⟩⟩)
  · rw [show (1 : Int32) = nI 1 by decide, nI_ltI (by omega) (by decide)] at hc
    exact h0 (fun z => by have := z.1; omega)
  · rw [show (1 : Int32) = nI 1 by decide, nI_ltI (by omega) (by decide)] at hc
    rw [show (12 : Int32) = nI 12 by decide, nI_leI (by omega) (by decide)] at hd
    exact sp_Not_isName_24 F Z (by omega) (by omega) h1 h0 (c - p - 2) 0 1 (by omega) (fun _ => rfl) (fun y => absurd (Or.inl rfl) y) (fun u hu => by omega) (fun u hu => by omega) (fun y => by omega)
  · rw [show (12 : Int32) = nI 12 by decide, nI_leI (by omega) (by decide)] at hd
    exact h0 (fun z => by have := z.1; omega)
theorem sp_Not_number_14 (F : cc_ok h) (Z : cc_txt h T n) {p : Nat} (hA : tx_A T n p ≤ p + 9) (hA2 : tx_A T n p ≤ n) (hq : Q (some (.int (nI (tx_w T p (tx_A T n p - p))))) h) : ∀ (m i : Nat), n - i = m → p ≤ i → i ≤ tx_A T n p → tx_A T n i = tx_A T n p → cd_W X m_Not_number kc ks 14 [some (.ref 71), some (.int (nI p)), some (.int (nI (tx_w T p (i - p)))), some (.int (nI i))] [] h Q := by
  obtain ⟨z1, z2, z3, z4⟩ := Z
  have Z : cc_txt h T n := ⟨z1, z2, z3, z4⟩
  intro m
  induction m with
  | zero =>
    intro i hm h1 h2 h3
    rw [tx_A, if_neg (by omega)] at h3
    rw [← h3] at hq
    refine g_Not_number_14 F ⟨fun _ => hq, fun _ => sp_Not_hasDigit F Z (by omega) (fun hh => by omega) (fun hh => ⟨_, rfl, F, fun _ => hq, fun hc => absurd rfl hc⟩)⟩
  | succ m ih =>
    intro i hm h1 h2 h3
    have hi : i < n := by omega
    have hz := z4 i hi
    refine g_Not_number_14 F ⟨fun hc => ?_, fun hc => sp_Not_hasDigit F Z (by omega) (fun hh => ⟨_, rfl, F, fun hn => absurd hn (by decide), fun _ => ?_⟩) (fun hh => ⟨_, rfl, F, fun _ => ?_, fun hn => absurd rfl hn⟩)⟩
    · rw [show (9 : Int32) = nI 9 by decide, nI_add, nI_leI (by omega) (by omega)] at hc
      have : i = tx_A T n p := by omega
      rw [← this] at hq
      exact hq
    · rw [tx_A, if_pos hh] at h3
      have hg := (tx_A_ge (T := T) (n := n) (n - (i + 1)) (i + 1) rfl).1
      refine ⟨vp_in_nI (by omega) (by decide), ?_⟩
      rw [nI_clamp (by omega), z3 i hi, show (10 : Int32) = nI 10 by decide, pk_mul, show (48 : Int32) = nI 48 by decide, pk_sub (by omega), nI_add, nI_1]
      have e1 : 10 * tx_w T p (i - p) + (T i - 48) = tx_w T p (i + 1 - p) := by
        rw [show i + 1 - p = (i - p) + 1 by omega, tx_w, show p + (i - p) = i by omega]
      rw [e1]
      exact ih (i + 1) (by omega) (by omega) (by omega) h3
    · rw [tx_A, if_neg hh] at h3
      rw [← h3] at hq
      exact hq
theorem sp_Not_number (F : cc_ok h) (Z : cc_txt h T n) {o : Option Nat} (ho : ∀ v, o = some v → ∃ e, tx_W T n v = some e) (hq : Q (some (.int (cd_op (tx_num T n o)))) h) : cd_W X m_Not_number kc ks 0 [some (.ref 71), some (.int (cd_op o)), none, none] [] h Q := by
  have z1 := Z.1
  cases o with
  | none => exact g_Not_number F (sp_Not_hasDigit_m1 F ⟨_, rfl, F, fun hc => absurd rfl hc, fun _ => hq⟩)
  | some v =>
    obtain ⟨e, hW⟩ := ho v rfl
    have hv := (tx_W_lt hW).1
    refine g_Not_number F ?_
    show cd_W X m_Not_hasDigit 0 0 0 [some (.ref 71), some (.int (nI v))] [] h _
    refine sp_Not_hasDigit F Z (by omega) (fun hd => ⟨_, rfl, F, fun _ => ?_, fun hn => absurd hn (by decide)⟩) (fun hd => ⟨_, rfl, F, fun hn => absurd rfl hn, fun _ => ?_⟩)
    · rw [tx_num, if_pos hd] at hq
      have hA := tx_W_A hW hd.2
      have := sp_Not_number_14 (X := X) (kc := kc) (ks := ks) (Q := Q) F Z hA.2.1 hA.2.2 hq (n - v) v rfl (Nat.le_refl _) (by omega) rfl
      rw [Nat.sub_self] at this
      exact this
    · rw [tx_num, if_neg hd] at hq
      exact hq
theorem sp_Not_strings_33 : ∀ (k p cnt e0 : Nat) (h : cd_H), tx_L T n (tx_W T n) 93 k p = some e0 → cc_ok h → cc_txt h T n → 3 * cnt + 1 ≤ p → (∀ h', cd_o 73 h h' → (∀ i, i < cnt → cd_i h' 73 i = cd_i h 73 i) → (∀ l, tx_Z T n k p = some l → ∀ i q, l[i]? = some q → cd_i h' 73 (cnt + i) = nI q) → Q (some (.int (cd_op ((tx_Z T n k p).map (fun l => cnt + l.length))))) h') → cd_W X m_Not_strings kc ks 33 [some (.ref 71), none, some (.ref 73), some (.int (nI p)), some (.int (nI cnt)), none] [] h Q := by
  intro k
  induction k with
  | zero => intro p cnt e0 h hL; cases hL
  | succ k ih =>
    intro p cnt e0 h hL F Z hk hq
    have z1 := Z.1
    obtain ⟨x, s1, s2, s3⟩ := tx_L_arr hL
    have hp := (tx_W_lt s1).1
    refine g_Not_strings_33 F ⟨32, cc_k73 F, fun hc => ?_, fun _ => ?_⟩
    · rw [nI_leI (by decide) (by omega)] at hc
      omega
    · rw [cd_34]
      refine sp_Not_has (o := some p) F Z (fun q e => by cases e; omega) (by decide) (fun hh => ⟨_, rfl, F, fun hn => absurd hn (by decide), fun _ => ?_⟩) (fun hh => ⟨_, rfl, F, fun _ => ?_, fun hn => absurd rfl hn⟩)
      · obtain ⟨q, e1, _, hc⟩ := hh
        cases e1
        have s4 := tx_W_str s1 hp hc
        have hsz := tx_s_some s4
        have eZ : tx_Z T n (k + 1) p = if x < n ∧ T x = 93 then some [p] else (tx_Z T n k (x + 1)).map (fun l => p :: l) := by
          rw [tx_Z, if_pos ⟨hp, hc⟩, s4]
        refine ⟨32, cc_k73 F, by decide, vp_in_nI (by omega) (by decide), ?_⟩
        rw [nI_clamp (by omega)]
        have O1 := cd_o.si 73 h cnt (nI p)
        have F1 := O1.cok F
        have Z1 := O1.ctxt (by decide) (by decide) Z
        have P1 : ∀ i, i < cnt → cd_i (cd_si h 73 cnt (nI p)) 73 i = cd_i h 73 i := fun i hi => by rw [cd_i_si, if_neg (by omega)]
        have P2 : cd_i (cd_si h 73 cnt (nI p)) 73 cnt = nI p := by rw [cd_i_si, if_pos ⟨rfl, rfl⟩]
        refine sp_Not_endOfString (o := some p) F1 Z1 (fun q e => by cases e; omega) ?_
        rw [show (some p).bind (tx_s T n) = some x from s4]
        refine ⟨_, rfl, F1, ?_⟩
        rw [cd_93]
        refine sp_Not_has (o := some x) F1 Z1 (fun q e => by cases e; omega) (by decide) (fun hh => ⟨_, rfl, F1, fun hn => absurd hn (by decide), fun _ => ?_⟩) (fun hh => ⟨_, rfl, F1, fun _ => ?_, fun hn => absurd rfl hn⟩)
        · obtain ⟨q, e1, _, hx⟩ := hh
          cases e1
          rw [if_pos ⟨s2, hx⟩] at eZ
          have := hq _ O1 P1 (fun l hl i q hi => by
            rw [eZ] at hl
            cases hl
            cases i with
            | zero => cases hi; exact P2
            | succ i => cases hi)
          rw [eZ] at this
          rw [nI_1]
          exact this
        · have hx : ¬ (x < n ∧ T x = 93) := fun z => hh ⟨x, rfl, z⟩
          rw [if_neg hx] at eZ
          rcases s3 with ⟨h6, _⟩ | ⟨_, h6⟩
          · exact absurd ⟨s2, h6⟩ hx
          · show cd_W X m_Not_strings kc ks 33 [some (.ref 71), none, some (.ref 73), some (.int (nI x + 1)), some (.int (nI cnt + 1)), none] [] _ Q
            rw [nI_1, nI_1]
            refine ih (x + 1) (cnt + 1) e0 _ h6 F1 Z1 (by omega) (fun h' O2 P3 P4 => ?_)
            have e2 : (tx_Z T n (k + 1) p).map (fun l => cnt + l.length) = (tx_Z T n k (x + 1)).map (fun l => cnt + 1 + l.length) := by
              rw [eZ]
              cases tx_Z T n k (x + 1) with
              | none => rfl
              | some l => show some (cnt + (l.length + 1)) = some (cnt + 1 + l.length); congr 1; omega
            have := hq h' (O1.tr O2) (fun i hi => (P3 i (by omega)).trans (P1 i hi)) (fun l hl i q hi => by
              rw [eZ] at hl
              cases hl2 : tx_Z T n k (x + 1) with
              | none => rw [hl2] at hl; cases hl
              | some l2 =>
                rw [hl2] at hl
                cases hl
                cases i with
                | zero => cases hi; exact (P3 cnt (by omega)).trans P2
                | succ i =>
                  have := P4 l2 hl2 i q hi
                  rw [show cnt + (i + 1) = cnt + 1 + i by omega]
                  exact this)
            rw [e2] at this
            exact this
      · have eZ : tx_Z T n (k + 1) p = none := by rw [tx_Z, if_neg (fun z => hh ⟨p, rfl, z⟩)]
        have := hq h (cd_o.rf _ _) (fun _ _ => rfl) (fun l hl => by rw [eZ] at hl; cases hl)
        rw [eZ] at this
        exact this
theorem sp_Not_strings (F : cc_ok h) (Z : cc_txt h T n) {o : Option Nat} (ho : ∀ v, o = some v → ∃ e, tx_W T n v = some e) (hq : ∀ h', cd_o 73 h h' → (∀ l, tx_z T n o = some l → ∀ i q, l[i]? = some q → cd_i h' 73 i = nI q) → Q (some (.int (tx_lo (tx_z T n o)))) h') : cd_W X m_Not_strings kc ks 0 [some (.ref 71), some (.int (cd_op o)), some (.ref 73), none, none, none] [] h Q := by
  have z1 := Z.1
  refine g_Not_strings F ?_
  rw [cd_91]
  refine sp_Not_has (o := o) F Z (fun q e => by obtain ⟨e, hW⟩ := ho q e; have := tx_W_lt hW; omega) (by decide) (fun hh => ⟨_, rfl, F, fun _ => ?_, fun hn => absurd hn (by decide)⟩) (fun hh => ⟨_, rfl, F, fun hn => absurd rfl hn, fun _ => ?_⟩)
  · obtain ⟨v, rfl, hv, hc⟩ := hh
    obtain ⟨e, hW⟩ := ho v rfl
    rw [tx_z, if_pos ⟨hv, hc⟩] at hq
    show cd_W X m_Not_has 0 0 0 [some (.ref 71), some (.int (nI v + 1)), some (.int (nI 93))] [] h _
    rw [nI_1]
    refine sp_Not_has (o := some (v + 1)) F Z (fun q e => by cases e; omega) (by decide) (fun hh => ⟨_, rfl, F, fun hn => absurd hn (by decide), fun _ => ?_⟩) (fun hh => ⟨_, rfl, F, fun _ => ?_, fun hn => absurd rfl hn⟩)
    · obtain ⟨q, e1, b1, b2⟩ := hh
      cases e1
      rw [if_pos ⟨b1, b2⟩] at hq
      exact hq h (cd_o.rf _ _) (fun l hl i q hi => by cases hl; cases hi)
    · have b1 : ¬ (v + 1 < n ∧ T (v + 1) = 93) := fun z => hh ⟨v + 1, rfl, z⟩
      rw [if_neg b1] at hq
      rcases tx_W_arr hW hv hc with ⟨c1, c2, _⟩ | ⟨_, b2⟩
      · exact absurd ⟨c1, c2⟩ b1
      · show cd_W X m_Not_strings kc ks 33 [some (.ref 71), none, some (.ref 73), some (.int (nI v + 1)), some (.int (nI 0)), none] [] h Q
        rw [nI_1]
        refine sp_Not_strings_33 96 (v + 1) 0 e h b2 F Z (by omega) (fun h' O _ P => ?_)
        have := hq h' O (fun l hl i q hi => by have := P l hl i q hi; rw [Nat.zero_add] at this; exact this)
        have e3 : (tx_Z T n 96 (v + 1)).map (fun l => 0 + l.length) = (tx_Z T n 96 (v + 1)).map List.length := by
          congr 1
          funext l
          omega
        rw [e3]
        exact this
  · cases o with
    | none => exact hq h (cd_o.rf _ _) (fun l hl => by cases hl)
    | some v =>
      have hne : ¬ (v < n ∧ T v = 91) := fun z => hh ⟨v, rfl, z⟩
      rw [tx_z, if_neg hne] at hq
      exact hq h (cd_o.rf _ _) (fun l hl => by cases hl)
end CF2
