theorem cd_ch.old {A B : Nat → Prop} {h h1 h2 : cd_H} (a : cd_ch B h h1) (b : cd_ch A h1 h2) (hA : ∀ x, x < cd_n h → A x → B x) : cd_ch B h h2 :=
  ⟨Nat.le_trans a.1 b.1, fun x hx => (b.2.1 x (Nat.lt_of_lt_of_le hx a.1)).trans (a.2.1 x hx), fun x hx hB => by
    obtain ⟨p1, p2, p3⟩ := a.2.2 x hx hB
    obtain ⟨q1, q2, q3⟩ := b.2.2 x (Nat.lt_of_lt_of_le hx a.1) (fun z => hB (hA x hx z))
    exact ⟨fun j => (q1 j).trans (p1 j), fun j => (q2 j).trans (p2 j), fun j => (q3 j).trans (p3 j)⟩⟩
theorem cc_ok.ch {A : Nat → Prop} {h h' : cd_H} (F : cc_ok h) (C : cd_ch A h h') (hA : ∀ x, x < 82 → ¬ A x) (hn : 82 ≤ cd_n h) : cc_ok h' :=
  ⟨fun z hz => by have hl := cc_KL_lt z hz; rw [C.2.1 z.1 (by omega)]; exact F.1 z hz, fun z hz => by have hl := cc_RL_lt z hz; rw [(C.2.2 z.1 (by omega) (hA z.1 (by omega))).2.2]; exact F.2 z hz⟩
theorem cc_txt.ch {A : Nat → Prop} {h h' : cd_H} {T : Nat → Nat} {n : Nat} (Z : cc_txt h T n) (C : cd_ch A h h') (hA : ∀ x, x < 82 → ¬ A x) (hn : 82 ≤ cd_n h) : cc_txt h' T n :=
  ⟨Z.1, by rw [(C.2.2 71 (by omega) (hA 71 (by decide))).1]; exact Z.2.1, fun j hj => by rw [(C.2.2 72 (by omega) (hA 72 (by decide))).1]; exact Z.2.2.1 j hj, Z.2.2.2⟩
section CSP
variable {X : cd_E} {kc ks : Nat} {h : cd_H} {Q : Option Value → cd_H → Prop} {T : Nat → Nat} {n : Nat}
def tx_sp (T : Nat → Nat) (n : Nat) (o : Option Nat) (N : Nat → Nat) (len : Nat) : Prop := ∃ p, o = some p ∧ (p < n ∧ T p = 34) ∧ (p + 1 + len < n ∧ T (p + 1 + len) = 34) ∧ ∀ j, j < len → T (p + 1 + j) = N j
theorem sp_Not_spells_34 (F : cc_ok h) (Z : cc_txt h T n) {a p len : Nat} {N : Nat → Nat} (A : cc_str h a N len) (hp : p + 1 + len < n) (h1 : (∀ j, j < len → T (p + 1 + j) = N j) → Q (some (.int 1)) h) (h0 : ¬ (∀ j, j < len → T (p + 1 + j) = N j) → Q (some (.int 0)) h) : ∀ i j, i + j = len → (∀ u, u < j → T (p + 1 + u) = N u) → cd_W X m_Not_spells kc ks 34 [some (.ref 71), some (.int (nI p)), some (.ref a), some (.int (nI len)), some (.int (nI j))] [] h Q := by
  have z1 := Z.1
  intro i
  induction i with
  | zero =>
    intro j hj hu
    have e : j = len := by omega
    subst e
    exact g_Not_spells_34 F ⟨fun _ => h1 hu, fun hc => absurd (nI_le (Nat.le_refl _) (by omega)) hc⟩
  | succ i ih =>
    intro j hj hu
    obtain ⟨b, hr, hb, hN⟩ := A.2.2.2
    have hNj := (hN j (by omega)).2
    refine g_Not_spells_34 F ⟨fun hc => ?_, fun _ => ⟨A.1, sp_Str_charAt A (by omega) ⟨_, rfl, F, ?_⟩⟩⟩
    · rw [nI_leI (by omega) (by omega)] at hc
      omega
    · rw [nI_1, nI_add]
      refine sp_Not_has (o := some (p + 1 + j)) F Z (fun q e => by cases e; omega) (by omega) (fun hh => ⟨_, rfl, F, fun _ => ?_, fun hc => absurd hc (by decide)⟩) (fun hh => ⟨_, rfl, F, fun hc => absurd rfl hc, fun _ => ?_⟩)
      · obtain ⟨q, e1, _, hT⟩ := hh
        cases e1
        rw [nI_1]
        refine ih (j + 1) (by omega) (fun u hu2 => ?_)
        by_cases e : u = j
        · subst e; exact hT
        · exact hu u (by omega)
      · exact h0 (fun z => hh ⟨p + 1 + j, rfl, by omega, z j (by omega)⟩)
theorem sp_Not_spells (F : cc_ok h) (Z : cc_txt h T n) {a len : Nat} {o : Option Nat} {N : Nat → Nat} (A : cc_str h a N len) (ho : ∀ p, o = some p → p < 2 ^ 30) (hl : len < 100) (h1 : tx_sp T n o N len → Q (some (.int 1)) h) (h0 : ¬ tx_sp T n o N len → Q (some (.int 0)) h) : cd_W X m_Not_spells kc ks 0 [some (.ref 71), some (.int (cd_op o)), some (.ref a), none, none] [] h Q := by
  refine g_Not_spells F ⟨A.1, sp_Str_length A ⟨_, rfl, F, ?_⟩⟩
  rw [cd_34]
  refine sp_Not_has F Z (fun p e => by have := ho p e; omega) (by decide) (fun hh => ⟨_, rfl, F, fun hc => absurd hc (by decide), fun _ => ?_⟩) (fun hh => ⟨_, rfl, F, fun _ => h0 (fun ⟨p, e1, e2, _⟩ => hh ⟨p, e1, e2⟩), fun hc => absurd rfl hc⟩)
  obtain ⟨p, rfl, hp, hT⟩ := hh
  have hpb := ho p rfl
  show cd_W X m_Not_has 0 0 0 [some (.ref 71), some (.int (nI p + 1 + nI len)), some (.int (nI 34))] [] h _
  rw [nI_1, nI_add]
  refine sp_Not_has (o := some (p + 1 + len)) F Z (fun q e => by cases e; omega) (by decide) (fun hh => ⟨_, rfl, F, fun _ => ?_, fun hc => absurd hc (by decide)⟩) (fun hh => ⟨_, rfl, F, fun hc => absurd rfl hc, fun _ => h0 (fun ⟨q, e1, _, e2, _⟩ => by cases e1; exact hh ⟨p + 1 + len, rfl, e2⟩)⟩)
  obtain ⟨q, e1, hq1, hq2⟩ := hh
  cases e1
  exact sp_Not_spells_34 F Z A hq1 (fun z => h1 ⟨p, rfl, ⟨hp, hT⟩, ⟨hq1, hq2⟩, z⟩) (fun z => h0 (fun ⟨q, e1, _, _, e2⟩ => by cases e1; exact z e2)) len 0 (by omega) (fun u hu => by omega)
theorem sp_Not_field_19 (F : cc_ok h) (Z : cc_txt h T n) {a len : Nat} {N : Nat → Nat} (A : cc_str h a N len) (hl : len < 100) (hN : ∀ j, j < len → N j ≠ 34 ∧ N j ≠ 92) : ∀ k i p e0, k + i = 96 → tx_L T n (tx_W T n) 125 k p = some e0 → Q (some (.int (cd_op (tx_F T n N len k p)))) h → cd_W X m_Not_field kc ks 19 [some (.ref 71), none, some (.ref a), some (.int (nI p)), some (.int (nI i)), none, none] [] h Q := by
  have z1 := Z.1
  intro k
  induction k with
  | zero => intro i p e0 _ h _; cases h
  | succ k ih =>
    intro i p e0 hk hL hq
    obtain ⟨c, x, s1, s2, s3, s4, s5, s6⟩ := tx_L_obj hL
    obtain ⟨a1, a2, a3, a4, a5, a6⟩ := tx_s_some s1
    have hsp : tx_sp T n (some p) N len ↔ (c = p + len + 2 ∧ ∀ j, j < len → T (p + 1 + j) = N j) := by
      rw [tx_spell hN s1]
      constructor
      · rintro ⟨q, e1, _, e2, e3⟩
        cases e1
        exact ⟨e2.1, e2.2, e3⟩
      · rintro ⟨e1, e2, e3⟩
        exact ⟨p, rfl, ⟨a3, a4⟩, ⟨e1, e2⟩, e3⟩
    rw [tx_F, s1] at hq
    simp only at hq
    refine g_Not_field_19 F ⟨fun hc => ?_, fun _ => ?_⟩
    · rw [show (96 : Int32) = nI 96 by decide, nI_leI (by decide) (by omega)] at hc
      omega
    · rw [cd_34]
      refine sp_Not_has (o := some p) F Z (fun q e => by cases e; omega) (by decide) (fun hh => ⟨_, rfl, F, fun hc => absurd hc (by decide), fun _ => ?_⟩) (fun hh => absurd ⟨p, rfl, a3, a4⟩ hh)
      refine sp_Not_endOfString (o := some p) F Z (fun q e => by cases e; omega) ?_
      rw [show (some p).bind (tx_s T n) = some c from s1]
      refine ⟨_, rfl, F, ?_⟩
      refine sp_Not_spells (o := some p) F Z A (fun q e => by cases e; omega) hl (fun hs => ⟨_, rfl, F, fun hc => absurd hc (by decide), fun _ => ?_⟩) (fun hs => ⟨_, rfl, F, fun _ => ?_, fun hc => absurd rfl hc⟩)
      · rw [if_pos (hsp.mp hs)] at hq
        show Q (some (.int (nI c + 1))) h
        rw [nI_1]
        exact hq
      · rw [if_neg (fun z => hs (hsp.mpr z)), s4] at hq
        simp only at hq
        show cd_W X (m_Not_endOfValue 6) 0 0 0 [some (.ref 71), some (.int (nI c + 1)), some (.int (nI 0))] [] h _
        rw [nI_1]
        refine sp_Not_endOfValue F Z 6 0 (c + 1) _ 0 0 rfl (by decide) (by omega) ?_
        rw [show tx_V T n (tx_n T n) (6 + 1) 0 (c + 1) = some x from tx_W_n s4]
        refine ⟨_, rfl, F, ?_⟩
        rw [cd_44]
        refine sp_Not_has (o := some x) F Z (fun q e => by cases e; omega) (by decide) (fun hh => ⟨_, rfl, F, fun _ => ?_, fun hc => absurd hc (by decide)⟩) (fun hh => ⟨_, rfl, F, fun hc => absurd rfl hc, fun _ => ?_⟩)
        · obtain ⟨q, e1, _, hT⟩ := hh
          cases e1
          rw [if_pos ⟨s5, hT⟩] at hq
          rcases s6 with ⟨h6, _⟩ | ⟨_, h6⟩
          · omega
          · show cd_W X m_Not_field kc ks 19 [some (.ref 71), none, some (.ref a), some (.int (nI x + 1)), some (.int (nI i + 1)), none, none] [] h Q
            rw [nI_1, nI_1]
            exact ih (i + 1) (x + 1) e0 (by omega) h6 hq
        · rw [if_neg (fun z => hh ⟨x, rfl, z⟩)] at hq
          exact hq
theorem sp_Not_field (F : cc_ok h) (Z : cc_txt h T n) {a len : Nat} {o : Option Nat} {N : Nat → Nat} (A : cc_str h a N len) (hl : len < 100) (hN : ∀ j, j < len → N j ≠ 34 ∧ N j ≠ 92) (ho : ∀ v, o = some v → ∃ e, tx_W T n v = some e) (hq : Q (some (.int (cd_op (tx_f T n N len o)))) h) : cd_W X m_Not_field kc ks 0 [some (.ref 71), some (.int (cd_op o)), some (.ref a), none, none, none, none] [] h Q := by
  have z1 := Z.1
  refine g_Not_field F ?_
  rw [cd_123]
  refine sp_Not_has F Z (fun q e => by obtain ⟨e, hW⟩ := ho q e; have := tx_W_lt hW; omega) (by decide) (fun hh => ⟨_, rfl, F, fun _ => ?_, fun hc => absurd hc (by decide)⟩) (fun hh => ⟨_, rfl, F, fun hc => absurd rfl hc, fun _ => ?_⟩)
  · obtain ⟨k, rfl, hk, hT⟩ := hh
    obtain ⟨e, hW⟩ := ho k rfl
    rw [tx_f, if_pos ⟨hk, hT⟩] at hq
    show cd_W X m_Not_field kc ks 19 [some (.ref 71), none, some (.ref a), some (.int (nI k + 1)), some (.int (nI 0)), none, none] [] h Q
    rw [nI_1]
    rcases tx_W_obj hW hk hT with ⟨b1, b2, _⟩ | ⟨b1, b2⟩
    · have hs : tx_s T n (k + 1) = none := by rw [tx_s, if_neg (by omega)]
      rw [tx_F, hs] at hq
      refine g_Not_field_19 F ⟨fun _ => hq, fun _ => ?_⟩
      rw [cd_34]
      exact sp_Not_has (o := some (k + 1)) F Z (fun q e => by cases e; omega) (by decide) (fun hh => by obtain ⟨q, e1, _, h4⟩ := hh; cases e1; omega) (fun hh => ⟨_, rfl, F, fun _ => hq, fun hc => absurd rfl hc⟩)
    · exact sp_Not_field_19 F Z A hl hN 96 0 (k + 1) e rfl b2 hq
  · cases o with
    | none => exact hq
    | some v =>
      have hne : ¬ (v < n ∧ T v = 123) := fun z => hh ⟨v, rfl, z⟩
      rw [tx_f, if_neg hne] at hq
      exact hq
theorem sp_Dig_withText_4 (F : cc_ok h) {a len : Nat} {N : Nat → Nat} (A : cc_str h a N len) : ∀ i j d, i + j = len → d < 2147483647 → Q (some (.int (nI ((List.range' j i).foldl (fun x u => cd_dg x (N u)) d)))) h → cd_W X m_Dig_withText kc ks 4 [none, some (.ref a), some (.int (nI d)), some (.int (nI j))] [] h Q := by
  have hl := A.2.2.1
  intro i
  induction i with
  | zero =>
    intro j d hj hd hq
    have e : j = len := by omega
    subst e
    exact g_Dig_withText_4 F ⟨A.1, sp_Str_length A ⟨_, rfl, F, fun _ => hq, fun hc => absurd (nI_le (Nat.le_refl _) (by omega)) hc⟩⟩
  | succ i ih =>
    intro j d hj hd hq
    obtain ⟨b, hr, hb, hN⟩ := A.2.2.2
    have hNj := (hN j (by omega)).2
    refine g_Dig_withText_4 F ⟨A.1, sp_Str_length A ⟨_, rfl, F, fun hc => ?_, fun _ => ⟨A.1, sp_Str_charAt A (by omega) ⟨_, rfl, F, ?_⟩⟩⟩⟩
    · rw [nI_leI (by omega) (by omega)] at hc
      omega
    · refine sp_Dig_with F hd (by omega) ⟨_, rfl, F, ?_⟩
      rw [nI_1]
      exact ih (j + 1) (cd_dg d (N j)) (by omega) (cd_dg_lt _ _) hq
end CSP
