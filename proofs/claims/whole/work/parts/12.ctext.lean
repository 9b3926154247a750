def cc_txt (h : cd_H) (T : Nat → Nat) (n : Nat) : Prop := n ≤ 96 ∧ cd_i h 71 1 = nI n ∧ (∀ j, j < n → cd_i h 72 j = nI (T j)) ∧ ∀ j, j < n → 32 ≤ T j ∧ T j ≤ 126
def tx_h (T : Nat → Nat) (n : Nat) (o : Option Nat) (c : Nat) : Prop := ∃ p, o = some p ∧ p < n ∧ T p = c
section CTX
variable {X : cd_E} {kc ks : Nat} {h : cd_H} {Q : Option Value → cd_H → Prop} {T : Nat → Nat} {n : Nat}
theorem sp_Not_has {o : Option Nat} {c : Nat} (F : cc_ok h) (Z : cc_txt h T n) (ho : ∀ p, o = some p → p < 2 ^ 31) (hc : c < 2 ^ 31) (h1 : tx_h T n o c → Q (some (.int 1)) h) (h0 : ¬ tx_h T n o c → Q (some (.int 0)) h) : cd_W X m_Not_has kc ks 0 [some (.ref 71), some (.int (cd_op o)), some (.int (nI c))] [] h Q := by
  obtain ⟨z1, z2, z3, z4⟩ := Z
  cases o with
  | none => exact g_Not_has F ⟨fun _ => h0 (fun ⟨p, e, _⟩ => by cases e), fun hn => absurd cd_op_neg hn⟩
  | some p =>
    have hp := ho p rfl
    show cd_W X m_Not_has kc ks 0 [some (.ref 71), some (.int (nI p)), some (.int (nI c))] [] h Q
    refine g_Not_has F ⟨fun hn => absurd hn (nI_pos hp), fun _ => ⟨fun hn => ?_, fun hn => ⟨?_, ?_⟩⟩⟩
    · rw [z2, nI_leI (by omega) hp] at hn
      exact h0 (fun ⟨q, e, a, _⟩ => by cases e; omega)
    · rw [z2, nI_leI (by omega) hp] at hn
      exact vp_in_nI (by omega) (by decide)
    · rw [z2, nI_leI (by omega) hp] at hn
      have := z4 p (by omega)
      rw [nI_clamp hp, z3 p (by omega)]
      refine ⟨fun hd => ?_, fun hd => ?_⟩
      · rw [nI_eq (by omega) hc] at hd
        exact h0 (fun ⟨q, e, _, a⟩ => by cases e; exact hd a)
      · rw [nI_eq (by omega) hc] at hd
        exact h1 ⟨p, rfl, by omega, hd⟩
theorem sp_Not_hasDigit {p : Nat} (F : cc_ok h) (Z : cc_txt h T n) (hp : p < 2 ^ 31) (h1 : (p < n ∧ 48 ≤ T p ∧ T p ≤ 57) → Q (some (.int 1)) h) (h0 : ¬ (p < n ∧ 48 ≤ T p ∧ T p ≤ 57) → Q (some (.int 0)) h) : cd_W X m_Not_hasDigit kc ks 0 [some (.ref 71), some (.int (nI p))] [] h Q := by
  obtain ⟨z1, z2, z3, z4⟩ := Z
  have e48 : (48 : Int32) = nI 48 := by decide
  have e57 : (57 : Int32) = nI 57 := by decide
  refine g_Not_hasDigit F ⟨fun hn => absurd hn (nI_pos hp), fun _ => ⟨fun hn => ?_, fun hn => ⟨?_, ?_⟩⟩⟩
  · rw [z2, nI_leI (by omega) hp] at hn
    exact h0 (by omega)
  · rw [z2, nI_leI (by omega) hp] at hn
    exact vp_in_nI (by omega) (by decide)
  · rw [z2, nI_leI (by omega) hp] at hn
    have := z4 p (by omega)
    rw [nI_clamp hp, z3 p (by omega)]
    refine ⟨fun hd => ?_, fun hd => ⟨fun he => ?_, fun he => ?_⟩⟩
    · rw [e48, nI_ltI (by omega) (by decide)] at hd
      exact h0 (by omega)
    · rw [e57, nI_ltI (by decide) (by omega)] at he
      exact h0 (by omega)
    · rw [e48, nI_ltI (by omega) (by decide)] at hd
      rw [e57, nI_ltI (by decide) (by omega)] at he
      exact h1 (by omega)
theorem sp_Not_endOfString_16 (F : cc_ok h) (Z : cc_txt h T n) : ∀ (m i : Nat), n - i = m → i ≤ n → Q (some (.int (cd_op (tx_S T n i)))) h → cd_W X m_Not_endOfString kc ks 16 [some (.ref 71), none, some (.int (nI i))] [] h Q := by
  obtain ⟨z1, z2, z3, z4⟩ := Z
  have e34 : (34 : Int32) = nI 34 := by decide
  have e92 : (92 : Int32) = nI 92 := by decide
  intro m
  induction m with
  | zero =>
    intro i hm hi hq
    rw [tx_S, if_neg (by omega)] at hq
    refine g_Not_endOfString_16 F ⟨fun _ => hq, fun hc => absurd ?_ hc⟩
    rw [z2, nI_leI (by omega) (by omega)]
    omega
  | succ m ih =>
    intro i hm hi hq
    have hin : i < n := by omega
    have := z4 i hin
    rw [tx_S, if_pos hin] at hq
    refine g_Not_endOfString_16 F ⟨fun hc => ?_, fun _ => ⟨vp_in_nI (by omega) (by decide), ?_⟩⟩
    · rw [z2, nI_leI (by omega) (by omega)] at hc
      omega
    · rw [nI_clamp (by omega), z3 i hin]
      refine ⟨fun hc => ?_, fun hc => ⟨fun hd => ?_, fun hd => ?_⟩⟩
      · rw [e92, nI_eq (by omega) (by decide)] at hc
        rw [if_pos hc] at hq
        exact hq
      · rw [e92, nI_eq (by omega) (by decide)] at hc
        rw [e34, nI_eq (by omega) (by decide)] at hd
        rw [if_neg hc, if_neg hd] at hq
        rw [nI_1]
        exact ih (i + 1) (by omega) (by omega) hq
      · rw [e92, nI_eq (by omega) (by decide)] at hc
        rw [e34, nI_eq (by omega) (by decide)] at hd
        rw [if_neg hc, if_pos hd] at hq
        rw [nI_1]
        exact hq
theorem sp_Not_endOfString {o : Option Nat} (F : cc_ok h) (Z : cc_txt h T n) (ho : ∀ p, o = some p → p < 2 ^ 30) (hq : Q (some (.int (cd_op (o.bind (tx_s T n))))) h) : cd_W X m_Not_endOfString kc ks 0 [some (.ref 71), some (.int (cd_op o)), none] [] h Q := by
  refine g_Not_endOfString F ?_
  rw [show (34 : Int32) = nI 34 from by decide]
  refine sp_Not_has F Z (fun p e => by have := ho p e; omega) (by decide) (fun hh => ⟨_, rfl, F, fun _ => ?_, fun hn => absurd hn (by decide)⟩) (fun hh => ⟨_, rfl, F, fun hn => absurd rfl hn, fun _ => ?_⟩)
  · obtain ⟨p, rfl, hp, hT⟩ := hh
    show cd_W X m_Not_endOfString kc ks 16 [some (.ref 71), none, some (.int (nI p + 1))] [] h Q
    rw [nI_1]
    have e1 : (some p).bind (tx_s T n) = tx_S T n (p + 1) := by
      show tx_s T n p = _
      rw [tx_s, if_pos ⟨hp, hT⟩]
    rw [e1] at hq
    exact sp_Not_endOfString_16 F Z (n - (p + 1)) (p + 1) rfl (by omega) hq
  · cases o with
    | none => exact hq
    | some p =>
      have e1 : (some p).bind (tx_s T n) = none := by
        show tx_s T n p = _
        rw [tx_s, if_neg (fun z => hh ⟨p, rfl, z⟩)]
      rw [e1] at hq
      exact hq
theorem sp_Not_endOfNumber_30 (F : cc_ok h) (Z : cc_txt h T n) : ∀ (k i p : Nat), k + i = 9 → 1 ≤ i → p < 2 ^ 30 → Q (some (.int (nI (tx_D T n k p)))) h → cd_W X m_Not_endOfNumber kc ks 30 [some (.ref 71), none, some (.int (nI p)), some (.int (nI i))] [] h Q := by
  have e9 : (9 : Int32) = nI 9 := by decide
  intro k
  induction k with
  | zero =>
    intro i p hk hi hp hq
    refine g_Not_endOfNumber_30 F ⟨fun _ => hq, fun hc => absurd ?_ hc⟩
    rw [e9, nI_leI (by decide) (by omega)]
    omega
  | succ k ih =>
    intro i p hk hi hp hq
    rw [tx_D] at hq
    refine g_Not_endOfNumber_30 F ⟨fun hc => ?_, fun _ => ?_⟩
    · rw [e9, nI_leI (by decide) (by omega)] at hc
      omega
    · refine sp_Not_hasDigit F Z (by omega) (fun hh => ⟨_, rfl, F, fun hn => absurd hn (by decide), fun _ => ?_⟩) (fun hh => ⟨_, rfl, F, fun _ => ?_, fun hn => absurd rfl hn⟩)
      · rw [if_pos hh] at hq
        rw [nI_1, nI_1]
        have := Z.1
        exact ih (i + 1) (p + 1) (by omega) (by omega) (by omega) hq
      · rw [if_neg hh] at hq
        exact hq
theorem sp_Not_endOfNumber {p : Nat} (F : cc_ok h) (Z : cc_txt h T n) (hp : p < 2 ^ 30) (hq : Q (some (.int (cd_op (tx_n T n p)))) h) : cd_W X m_Not_endOfNumber kc ks 0 [some (.ref 71), some (.int (nI p)), none, none] [] h Q := by
  have z1 := Z.1
  refine g_Not_endOfNumber F ?_
  refine sp_Not_hasDigit F Z (by omega) (fun hh => ⟨_, rfl, F, fun _ => ?_, fun hn => absurd hn (by decide)⟩) (fun hh => ⟨_, rfl, F, fun hn => absurd rfl hn, fun _ => ?_⟩)
  · rw [tx_n, if_pos hh] at hq
    rw [show (48 : Int32) = nI 48 from by decide]
    refine sp_Not_has (o := some p) F Z (fun q e => by cases e; omega) (by decide) (fun h3 => ⟨_, rfl, F, fun hn => absurd hn (by decide), fun _ => ?_⟩) (fun h3 => ⟨_, rfl, F, fun _ => ?_, fun hn => absurd rfl hn⟩)
    · obtain ⟨q, e, _, hT⟩ := h3
      cases e
      rw [if_pos hT] at hq
      rw [nI_1]
      exact hq
    · rw [if_neg (fun z => h3 ⟨p, rfl, hh.1, z⟩)] at hq
      rw [nI_1, show (1 : Int32) = nI 1 from by decide]
      exact sp_Not_endOfNumber_30 F Z 8 1 (p + 1) rfl (by decide) (by omega) hq
  · rw [tx_n, if_neg hh] at hq
    exact hq
theorem tx_n_le {p q : Nat} (h : tx_n T n p = some q) : q ≤ n := by
  have key : ∀ k p, p ≤ n → tx_D T n k p ≤ n := by
    intro k
    induction k with
    | zero => intro p hp; exact hp
    | succ k ih =>
      intro p hp
      rw [tx_D]
      split
      · exact ih (p + 1) (by omega)
      · exact hp
  rw [tx_n] at h
  split at h
  · split at h
    · cases h; omega
    · cases h; exact key 8 _ (by omega)
  · cases h
theorem tx_L_le {V : Nat → Option Nat} {last : Nat} : ∀ k p q, tx_L T n V last k p = some q → q ≤ n := by
  intro k
  induction k with
  | zero => intro p q h; cases h
  | succ k ih =>
    intro p q h
    rw [tx_L] at h
    split at h
    · cases h
    · split at h
      · cases h
      · split at h
        · cases h; omega
        · split at h
          · exact ih _ _ h
          · cases h
theorem tx_V_le {N : Nat → Option Nat} (hN : ∀ p q, N p = some q → q ≤ n) {g d p q : Nat} (h : tx_V T n N g d p = some q) : q ≤ n := by
  cases g with
  | zero => cases h
  | succ g =>
    rw [tx_V] at h
    split at h
    · exact (tx_s_some h).2.1
    · split at h
      · rw [tx_P] at h
        split at h
        · cases h
        · split at h
          · cases h; omega
          · exact tx_L_le _ _ _ h
      · split at h
        · rw [tx_P] at h
          split at h
          · cases h
          · split at h
            · cases h; omega
            · exact tx_L_le _ _ _ h
        · exact hN _ _ h
theorem sp_Not_endOfParts_30 {V : Nat → Option Nat} {last d e : Nat} (F : cc_ok h) (Z : cc_txt h T n) (hl : last = 93 ∨ last = 125) (hVn : ∀ p q, V p = some q → q ≤ n)
    (hV : ∀ (p : Nat) (Q' : Option Value → cd_H → Prop), p ≤ 100 → Q' (some (.int (cd_op (V p)))) h → cd_W X (m_Not_endOfValue d) 0 0 0 [some (.ref 71), some (.int (nI p)), some (.int (nI e))] [] h Q') :
    ∀ (k i p : Nat), k + i = 96 → p ≤ 97 → Q (some (.int (cd_op (tx_L T n V last k p)))) h → cd_W X (m_Not_endOfParts (d + 1)) kc ks 30 [some (.ref 71), none, some (.int (nI last)), some (.int (nI e)), some (.int (nI p)), some (.int (nI i)), none] [] h Q := by
  have z1 := Z.1
  have e96 : (96 : Int32) = nI 96 := by decide
  have e44 : (44 : Int32) = nI 44 := by decide
  have e58 : (58 : Int32) = nI 58 := by decide
  have e125 : (125 : Int32) = nI 125 := by decide
  intro k
  induction k with
  | zero =>
    intro i p hk hp hq
    refine g_Not_endOfParts_30 F ⟨fun _ => hq, fun hc => absurd ?_ hc⟩
    rw [e96, nI_leI (by decide) (by omega)]
    omega
  | succ k ih =>
    intro i p hk hp hq
    have rest : ∀ v, v ≤ 100 → Q (some (.int (cd_op (match V v with
        | none => none
        | some e => if e < n ∧ T e = last then some (e + 1) else if e < n ∧ T e = 44 then tx_L T n V last k (e + 1) else none)))) h →
        cd_W X (m_Not_endOfValue d) 0 0 0 [some (.ref 71), some (.int (nI v)), some (.int (nI e))] [] h (fun r3 h4 => ∃ x5 : Int32, r3 = some (.int x5) ∧ ((cc_ok h4) ∧ (cd_W X m_Not_has 0 0 0 [some (.ref 71), some (.int x5), some (.int (nI last))] [] h4 (fun r7 h8 => ∃ x9 : Int32, r7 = some (.int x9) ∧ ((cc_ok h8) ∧ ((((x9 = 0) → (cd_W X m_Not_has 0 0 0 [some (.ref 71), some (.int x5), some (.int 44)] [] h8 (fun r12 h13 => ∃ x14 : Int32, r12 = some (.int x14) ∧ ((cc_ok h13) ∧ ((((¬ x14 = 0) → (cd_W X (m_Not_endOfParts (d + 1)) kc ks 30 [some (.ref 71), none, some (.int (nI last)), some (.int (nI e)), some (.int (x5 + 1)), some (.int (nI i + 1)), none] [] h13 Q)) ∧ ((x14 = 0) → (Q (some (.int (-1))) h13)))))))) ∧ ((¬ x9 = 0) → (Q (some (.int (x5 + 1))) h8))))))))) := by
      intro v hv hq
      refine hV v _ hv ⟨_, rfl, F, ?_⟩
      have hb : ∀ q, V v = some q → q < 2 ^ 31 := fun q e => by have := hVn v q e; omega
      refine sp_Not_has F Z hb (by omega) (fun hh => ⟨_, rfl, F, fun hn => absurd hn (by decide), fun _ => ?_⟩) (fun hh => ⟨_, rfl, F, fun _ => ?_, fun hn => absurd rfl hn⟩)
      · obtain ⟨q, e1, h1, h2⟩ := hh
        rw [e1] at hq ⊢
        simp only at hq
        rw [if_pos ⟨h1, h2⟩] at hq
        show Q (some (.int (nI q + 1))) h
        rw [nI_1]
        exact hq
      · rw [e44]
        refine sp_Not_has F Z hb (by decide) (fun h3 => ⟨_, rfl, F, fun _ => ?_, fun hn => absurd hn (by decide)⟩) (fun h3 => ⟨_, rfl, F, fun hn => absurd rfl hn, fun _ => ?_⟩)
        · obtain ⟨q, e1, h1, h2⟩ := h3
          rw [e1] at hq hh ⊢
          simp only at hq
          rw [if_neg (fun z => hh ⟨q, rfl, z⟩), if_pos ⟨h1, h2⟩] at hq
          show cd_W X (m_Not_endOfParts (d + 1)) kc ks 30 [some (.ref 71), none, some (.int (nI last)), some (.int (nI e)), some (.int (nI q + 1)), some (.int (nI i + 1)), none] [] h Q
          rw [nI_1, nI_1]
          exact ih (i + 1) (q + 1) (by omega) (by omega) hq
        · cases hv' : V v with
          | none => rw [hv'] at hq; exact hq
          | some q =>
            rw [hv'] at hq hh h3
            simp only at hq
            rw [if_neg (fun z => hh ⟨q, rfl, z⟩), if_neg (fun z => h3 ⟨q, rfl, z⟩)] at hq
            exact hq
    rw [tx_L] at hq
    refine g_Not_endOfParts_30 F ⟨fun hc => ?_, fun _ => ⟨fun hc => ?_, fun hc => ?_⟩⟩
    · rw [e96, nI_leI (by decide) (by omega)] at hc
      omega
    · rw [e125, nI_eq (by omega) (by decide)] at hc
      rw [if_neg hc] at hq
      exact rest p (by omega) hq
    · rw [e125, nI_eq (by omega) (by decide)] at hc
      rw [if_pos hc] at hq
      refine sp_Not_endOfString (o := some p) F Z (fun q e => by cases e; omega) ⟨_, rfl, F, ?_⟩
      show cd_W X m_Not_has 0 0 0 [some (.ref 71), some (.int (cd_op (tx_s T n p))), some (.int 58)] [] h _
      rw [e58]
      have hsb : ∀ q, tx_s T n p = some q → q ≤ n := fun q e => (tx_s_some e).2.1
      refine sp_Not_has F Z (fun q e => by have := hsb q e; omega) (by decide) (fun hh => ⟨_, rfl, F, fun _ => ?_, fun hn => absurd hn (by decide)⟩) (fun hh => ⟨_, rfl, F, fun hn => absurd rfl hn, fun _ => ?_⟩)
      · obtain ⟨c, e1, h1, h2⟩ := hh
        rw [e1] at hq
        rw [show (some p).bind (tx_s T n) = some c from e1]
        simp only at hq
        rw [if_pos ⟨h1, h2⟩] at hq
        show cd_W X (m_Not_endOfValue d) 0 0 0 [some (.ref 71), some (.int (nI c + 1)), some (.int (nI e))] [] h _
        rw [nI_1]
        exact rest (c + 1) (by omega) hq
      · cases hs : tx_s T n p with
        | none => rw [hs] at hq; exact hq
        | some c =>
          rw [hs] at hq hh
          simp only at hq
          rw [if_neg (fun z => hh ⟨c, rfl, z⟩)] at hq
          exact hq
theorem sp_Not_endOfValue (F : cc_ok h) (Z : cc_txt h T n) : ∀ (g e p : Nat) (Q : Option Value → cd_H → Prop) (kc ks : Nat), g + e = 6 → e ≤ 4 → p ≤ 100 → Q (some (.int (cd_op (tx_V T n (tx_n T n) (g + 1) e p)))) h → cd_W X (m_Not_endOfValue g) kc ks 0 [some (.ref 71), some (.int (nI p)), some (.int (nI e))] [] h Q := by
  have z1 := Z.1
  intro g
  induction g with
  | zero => intro e p Q kc ks h1 h2; omega
  | succ g ih =>
    intro e p Q kc ks hg he hp hq
    have parts : p < n → ∀ last, (last = 93 ∨ last = 125) → ∀ Q' : Option Value → cd_H → Prop, Q' (some (.int (cd_op (tx_P T n (tx_V T n (tx_n T n) (g + 1) (e + 1)) last (e + 1) p)))) h → cd_W X (m_Not_endOfParts (g + 1)) 0 0 0 [some (.ref 71), some (.int (nI p)), some (.int (nI last)), some (.int (nI e + 1)), none, none, none] [] h Q' := by
      intro hpn last hl Q' hq'
      rw [nI_1]
      rw [tx_P] at hq'
      refine g_Not_endOfParts F ⟨fun hc => ?_, fun hc => ?_⟩
      · rw [show (4 : Int32) = nI 4 from by decide, nI_leI (by omega) (by decide)] at hc
        rw [if_neg (by omega)] at hq'
        rw [nI_1]
        refine sp_Not_has (o := some (p + 1)) F Z (fun q e => by cases e; omega) (by omega) (fun hh => ⟨_, rfl, F, fun hn => absurd hn (by decide), fun _ => ?_⟩) (fun hh => ⟨_, rfl, F, fun _ => ?_, fun hn => absurd rfl hn⟩)
        · obtain ⟨q, e1, h1, h2⟩ := hh
          cases e1
          rw [if_pos ⟨h1, h2⟩] at hq'
          rw [nI_1]
          exact hq'
        · rw [if_neg (fun z => hh ⟨p + 1, rfl, z⟩)] at hq'
          rw [show (0 : Int32) = nI 0 from by decide]
          refine sp_Not_endOfParts_30 F Z hl (fun p q hpq => tx_V_le (fun _ _ => tx_n_le) hpq) (fun p' Q'' hp' hq'' => ih (e + 1) p' Q'' 0 0 (by omega) (by omega) hp' hq'') 96 0 (p + 1) rfl (by omega) hq'
      · rw [show (4 : Int32) = nI 4 from by decide, nI_leI (by omega) (by decide)] at hc
        rw [if_pos (by omega)] at hq'
        exact hq'
    rw [tx_V] at hq
    refine g_Not_endOfValue F ?_
    rw [show (34 : Int32) = nI 34 from by decide]
    refine sp_Not_has (o := some p) F Z (fun q e => by cases e; omega) (by decide) (fun hh => ⟨_, rfl, F, fun hn => absurd hn (by decide), fun _ => ?_⟩) (fun hh => ⟨_, rfl, F, fun _ => ?_, fun hn => absurd rfl hn⟩)
    · obtain ⟨q, e1, h1, h2⟩ := hh
      cases e1
      rw [if_pos ⟨h1, h2⟩] at hq
      exact sp_Not_endOfString (o := some p) F Z (fun q e => by cases e; omega) ⟨_, rfl, F, hq⟩
    · rw [if_neg (fun z => hh ⟨p, rfl, z⟩)] at hq
      rw [show (91 : Int32) = nI 91 from by decide]
      refine sp_Not_has (o := some p) F Z (fun q e => by cases e; omega) (by decide) (fun hh => ⟨_, rfl, F, fun hn => absurd hn (by decide), fun _ => ?_⟩) (fun hh => ⟨_, rfl, F, fun _ => ?_, fun hn => absurd rfl hn⟩)
      · obtain ⟨q, e1, h1, h2⟩ := hh
        cases e1
        rw [if_pos ⟨h1, h2⟩] at hq
        exact parts h1 93 (Or.inl rfl) _ ⟨_, rfl, F, hq⟩
      · rw [if_neg (fun z => hh ⟨p, rfl, z⟩)] at hq
        rw [show (123 : Int32) = nI 123 from by decide]
        refine sp_Not_has (o := some p) F Z (fun q e => by cases e; omega) (by decide) (fun hh => ⟨_, rfl, F, fun hn => absurd hn (by decide), fun _ => ?_⟩) (fun hh => ⟨_, rfl, F, fun _ => ?_, fun hn => absurd rfl hn⟩)
        · obtain ⟨q, e1, h1, h2⟩ := hh
          cases e1
          rw [if_pos ⟨h1, h2⟩] at hq
          exact parts h1 125 (Or.inr rfl) _ ⟨_, rfl, F, hq⟩
        · rw [if_neg (fun z => hh ⟨p, rfl, z⟩)] at hq
          exact sp_Not_endOfNumber F Z (by omega) ⟨_, rfl, F, hq⟩
end CTX
