section CST
variable {X : cd_E} {kc ks : Nat} {h : cd_H} {Q : Option Value → cd_H → Prop} {T : Nat → Nat} {n : Nat}
theorem cc_sb.congr {a b m : Nat} {N N' : Nat → Nat} (A : cc_sb h a b N m) (e : ∀ j, j < m → N j = N' j) : cc_sb h a b N' m := by
  obtain ⟨a1, a2, a3, a4, a5, a6, a7, a8, a9⟩ := A
  exact ⟨a1, a2, a3, a4, a5, a6, a7, a8, fun j hj => by rw [← e j hj]; exact a9 j hj⟩
theorem sp_Not_string_19 {a b p m : Nat} (hm : m ≤ 12) (hp : p + 1 + m < n) (ha : 82 ≤ a) (hb : 82 ≤ b) : ∀ (i j : Nat) (h : cd_H), i + j = m → cc_ok h → cc_txt h T n → cc_sb h a b (fun u => T (p + 1 + u)) j → 82 ≤ cd_n h → (∀ h' s bb, cd_ch (fun x => x = a ∨ x = b) h h' → cc_str h' s (fun u => T (p + 1 + u)) m → cd_n h ≤ s → cd_r h' s 0 = some bb → cd_n h ≤ bb → s < cd_n h' → bb < cd_n h' → cc_ok h' → Q (some (.ref s)) h') → cd_W X m_Not_string (kc + 2) (ks + 16) 19 [some (.ref 71), none, some (.ref a), some (.int (nI (p + m + 2))), some (.int (nI (p + 1 + j)))] [] h Q := by
  have e1 : ∀ j, j + p + 2 < 2 ^ 31 → nI (j + p + 2) - 1 = nI (j + p + 1) := fun j hj => nI_pred (j + p + 1)
  intro i
  induction i with
  | zero =>
    intro j h hj F Z A hn hq
    have z1 := Z.1
    have e : j = m := by omega
    subst e
    refine g_Not_string_19b F ⟨fun _ => ⟨A.2.2.1, ?_⟩, fun hc => absurd ?_ hc⟩
    · refine sp_SB_toString (kc := 0) (ks := 0) A hm (fun h' C hn' S hr => ⟨_, rfl, F.ch C (fun _ _ z => z) hn, hq h' _ _ ?_ S (Nat.le_refl _) hr (Nat.le_succ _) (by omega) (by omega) (F.ch C (fun _ _ z => z) hn)⟩)
      exact ⟨C.1, C.2.1, fun x hx _ => C.2.2 x hx (fun z => z)⟩
    · rw [show p + j + 2 = j + p + 2 by omega, e1 j (by omega), nI_leI (by omega) (by omega)]
      omega
  | succ i ih =>
    intro j h hj F Z A hn hq
    have z1 := Z.1
    have z3 := Z.2.2.1
    have z4 := Z.2.2.2 (p + 1 + j) (by omega)
    refine g_Not_string_19b F ⟨fun hc => ?_, fun _ => ⟨vp_in_nI (by omega) (by decide), A.2.2.1, ?_⟩⟩
    · rw [show p + m + 2 = m + p + 2 by omega, e1 m (by omega), nI_leI (by omega) (by omega)] at hc
      omega
    · rw [nI_clamp (by omega), z3 _ (by omega), nI_1]
      refine sp_SB_append A (by omega) (by omega) (fun h' C hn' A' => ⟨_, rfl, F.ch C (fun x hx z => by omega) hn, ?_⟩)
      have F' := F.ch C (fun x hx z => by omega) hn
      have Z' := Z.ch C (fun x hx z => by omega) hn
      have A2 := A'.congr (N' := fun u => T (p + 1 + u)) (fun u hu => by
        show (if u = j then T (p + 1 + j) else T (p + 1 + u)) = T (p + 1 + u)
        by_cases e : u = j
        · rw [if_pos e, e]
        · rw [if_neg e])
      rw [show p + 1 + j + 1 = p + 1 + (j + 1) by omega]
      exact ih (j + 1) h' (by omega) F' Z' A2 (by omega) (fun h2 s bb C2 S q1 q2 q3 q4 q5 q6 => hq h2 s bb (C.tr C2) S (by omega) q2 (by omega) q4 q5 q6)
theorem sp_Not_string (F : cc_ok h) (Z : cc_txt h T n) {p c : Nat} (hs : tx_s T n p = some c) (hm : c - p - 2 ≤ 12) (hn : 82 ≤ cd_n h) (hq : ∀ h' s bb, cd_ch (fun _ => False) h h' → cc_str h' s (fun u => T (p + 1 + u)) (c - p - 2) → cd_n h ≤ s → cd_r h' s 0 = some bb → cd_n h ≤ bb → s < cd_n h' → bb < cd_n h' → cc_ok h' → Q (some (.ref s)) h') : cd_W X m_Not_string 20 600 0 [some (.ref 71), some (.int (nI p)), none, none, none] [] h Q := by
  obtain ⟨a1, a2, a3, a4, a5, a6⟩ := tx_s_some hs
  have z1 := Z.1
  refine g_Not_string (kc := 18) (ks := 580) F ⟨hn, ?_⟩
  refine sp_SB_init (kc := 0) (ks := 0) (N := fun u => T (p + 1 + u)) (a := cd_n h) (by omega) (by rw [cd_k_new, if_pos rfl]) (by rw [cd_i_new, if_pos rfl]) (fun h' C hn' A => ?_)
  have hn2 : cd_n h' = cd_n h + 2 := hn'
  have C0 : cd_ch (fun _ => False) h h' := (cd_ch.new (A := fun _ => False) (q := .inl 14)).old C (fun x hx z => by omega)
  have F' := F.ch C0 (fun _ _ z => z) hn
  have Z' := Z.ch C0 (fun _ _ z => z) hn
  refine ⟨rfl, F', sp_Not_endOfString (o := some p) F' Z' (fun q e => by cases e; omega) ?_⟩
  rw [show (some p).bind (tx_s T n) = some c from hs]
  refine ⟨_, rfl, F', ?_⟩
  have ec : c = p + (c - p - 2) + 2 := by omega
  have K := sp_Not_string_19 (X := X) (kc := 16) (ks := 564) (Q := Q) (a := cd_n h) (b := cd_n h + 1) (p := p) (m := c - p - 2) hm (by omega) hn (by omega) (c - p - 2) 0 h' (by omega) F' Z' A (by omega) (fun h2 s bb C2 S q1 q2 q3 q4 q5 q6 => hq h2 s bb (C0.old C2 (fun x hx z => by omega)) S (by omega) q2 (by omega) q4 q5 q6)
  rw [← ec] at K
  show cd_W X m_Not_string 18 580 19 [some (.ref 71), none, some (.ref (cd_n h)), some (.int (nI c)), some (.int (nI p + 1))] [] h' Q
  rw [nI_1]
  exact K
end CST
