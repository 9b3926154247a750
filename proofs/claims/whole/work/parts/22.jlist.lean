section JLS
variable {X : cd_E} {kc ks : Nat} {h : cd_H} {Q : Option Value → cd_H → Prop}
theorem sp_copyOf3 {p1 N cap : Nat} (hk : cd_k h p1 = some (.inr (5, cap))) (h64 : 64 ≤ p1) (hlt : p1 < cd_n h) (hc : cap < N) (hN : N ≤ 40) (hn : 64 ≤ cd_n h) (hel : ∀ i, i < cap → ∀ v, cd_r h p1 i = some v → ∃ c, cd_k h v = some (.inl c) ∧ v < cd_n h ∧ cd_CA X c "java/lang/Object") (hq : Q (some (.ref (cd_n h))) (cd_cp (cd_new h (.inr (5, N))) p1 0 (cd_n h) 0 cap)) : cd_W X m_Arr_copyOf_ALObjectILClassALObject (kc + 1) (ks + 40) 0 [some (.ref p1), some (.int (nI N)), some (.ref (cd_mr X)), none] [] h Q := by
  have hk' : cd_k (cd_new h (.inr (5, N))) p1 = some (.inr (5, cap)) := by rw [cd_k_new, if_neg (by omega)]; exact hk
  refine g_Arr_copyOf_ALObjectILClassALObject ⟨fun a b e1 e2 => Or.inl (by cases e1; cases e2; rfl), fun hne => absurd rfl hne, fun _ => ⟨N, rfl, hN, cap, hk', ?_⟩⟩
  rw [if_neg (nI_nlt (by omega) (by omega))]
  refine cd_copy (idx := 150) (sp := 0) (dp := 0) (n := cap) (n1 := N) (S := []) (z := 5) (t := .object "java/lang/Object") d_Arr_copyOf_ALObjectILClassALObject_35 jw_link jw_nat jw_stat jw_init rfl hk' (by rw [cd_k_new, if_pos rfl]) (by omega) h64 (by omega) (by omega) (by omega) (by omega) (fun i hi => Or.inr ⟨_, rfl, fun v hv => ?_⟩) (by decide) (by decide) (Nat.le_of_ble_eq_true rfl) ?_
  · rw [Nat.zero_add, cd_r_new, if_neg (by omega)] at hv
    obtain ⟨c, q1, q2, q3⟩ := hel i hi v hv
    exact ⟨c, by rw [cd_k_new, if_neg (by omega)]; exact q1, q3⟩
  · refine cd_aload_n (i := 3) (v := .ref (cd_n h)) d_Arr_copyOf_ALObjectILClassALObject_38 rfl rfl (cd_isr_ref _) ?_
    exact cd_aret d_Arr_copyOf_ALObjectILClassALObject_39 rfl (Or.inr ⟨_, rfl⟩) (cd_isr_ref _) hq
theorem sp_newLength {cap : Nat} (h10 : 10 ≤ cap) (hc : cap ≤ 40) (hq : Q (some (.int (nI (cap + cap / 2)))) h) : cd_W X m_ASu_newLength kc ks 0 [some (.int (nI cap)), some (.int (nI 1)), some (.int (nI (cap / 2))), none] [] h Q := by
  refine g_ASu_newLength ?_
  rw [if_pos (nI_lt (by omega) (by omega)), nI_add]
  refine ⟨fun hx => absurd hx (nI_nle (by omega) (by omega)), fun _ => ⟨fun hx => ?_, fun _ => hq⟩⟩
  rw [show (2147483639 : Int32) = nI 2147483639 by decide, nI_ltI (by decide) (by omega)] at hx
  omega
theorem sp_AL_grow {a b cap : Nat} {l : List Nat} (A : cc_lst h a l b cap) (hfull : l.length = cap) (hcap : cap ≤ 22) (hn : 64 ≤ cd_n h) (han : a < cd_n h) (hbn : b < cd_n h) (hel : ∀ i, i < cap → ∀ v, cd_r h b i = some v → ∃ c, cd_k h v = some (.inl c) ∧ v < cd_n h ∧ cd_CA X c "java/lang/Object")
    (hq : ∀ h' cap', (cap' = 10 ∨ cap' = 15 ∨ cap' = 22 ∨ cap' = 33) → cap < cap' → cd_n h' = cd_n h + 1 → (∀ x, x < cd_n h → cd_k h' x = cd_k h x) → cd_k h' (cd_n h) = some (.inr (5, cap')) → (∀ x j, x < cd_n h → cd_i h' x j = cd_i h x j) → (∀ x j, x < cd_n h → cd_l h' x j = cd_l h x j) → (∀ x j, x < cd_n h → ¬ (x = a ∧ j = 0) → cd_r h' x j = cd_r h x j) → cd_r h' a 0 = some (cd_n h) → (∀ j, j < cap → cd_r h' (cd_n h) j = cd_r h b j) → Q (some (.ref (cd_n h))) h') :
    cd_W X m_AL_grow_ALObject (kc + 1) (ks + 40) 0 [some (.ref a)] [] h Q := by
  obtain ⟨a1, a2, a3, a4, a5, a6, a7, a8⟩ := A
  refine g_AL_grow_ALObject ⟨a2, ?_⟩
  rw [a3, nI_1, hfull]
  refine g_AL_grow_IALObject (kc := 0) (ks := 0) ⟨a2, b, a4, cap, a5, fun hpos => ?_, fun hpos => ?_⟩
  · have h10 : 10 ≤ cap ∧ 64 ≤ b := by
      rcases a7 with ⟨z1, z2⟩ | z
      · rw [z2] at hpos; exact absurd hpos (by decide)
      · omega
    have hN : cap + cap / 2 = 15 ∨ cap + cap / 2 = 22 ∨ cap + cap / 2 = 33 := by omega
    rw [pk_sub (by omega), show cap + 1 - cap = 1 by omega, pk_shrN (by omega) ((1 : Int32) &&& 31) 1 (by decide)]
    refine sp_newLength h10.1 (by omega) ⟨_, rfl, a2, b, a4, g_Arr_copyOf_ALObjectIALObject ⟨cap, a5, h10.2, ?_⟩⟩
    refine sp_copyOf3 (kc := 0) (ks := 0) a5 h10.2 hbn (by omega) (by omega) hn hel ⟨_, rfl, _, rfl, ?_, a1, ⟨_, rfl, ?_⟩⟩
    · show cd_k (cd_new h _) a = _
      rw [cd_k_new, if_neg (by omega)]; exact a2
    · refine hq _ (cap + cap / 2) (by omega) (by omega) rfl (fun x hx => ?_) ?_ (fun x j hx => ?_) (fun x j hx => ?_) (fun x j hx hne => ?_) ?_ (fun j hj => ?_)
      · show cd_k (cd_new h _) x = _
        rw [cd_k_new, if_neg (by omega)]
      · show cd_k (cd_new h _) (cd_n h) = _
        rw [cd_k_new, if_pos rfl]
      · show (if x = cd_n h ∧ 0 ≤ j ∧ j < 0 + cap then _ else cd_i (cd_new h _) x j) = _
        rw [if_neg (by omega), cd_i_new, if_neg (by omega)]
      · show (if x = cd_n h ∧ 0 ≤ j ∧ j < 0 + cap then _ else cd_l (cd_new h _) x j) = _
        rw [if_neg (by omega), cd_l_new, if_neg (by omega)]
      · rw [cd_r_sr, if_neg hne]
        show (if x = cd_n h ∧ 0 ≤ j ∧ j < 0 + cap then _ else cd_r (cd_new h _) x j) = _
        rw [if_neg (by omega), cd_r_new, if_neg (by omega)]
      · rw [cd_r_sr, if_pos ⟨rfl, rfl⟩]
      · rw [cd_r_sr, if_neg (by omega)]
        show (if cd_n h = cd_n h ∧ 0 ≤ j ∧ j < 0 + cap then cd_r (cd_new h _) b (0 + (j - 0)) else _) = _
        rw [if_pos ⟨rfl, by omega, by omega⟩, cd_r_new, if_neg (by omega)]
        congr 1
        omega
  · have h0 : b = 0 ∧ cap = 0 := by
      rcases a7 with z | z
      · exact z
      · exact absurd (nI_lt (a := 0) (by omega) (by omega)) hpos
    refine ⟨fun x y e1 e2 => Or.inl (by cases e1; cases e2; exact h0.1), fun _ => ⟨10, ?_, by decide, ?_, a1, ⟨_, rfl, ?_⟩⟩, fun hne => absurd (by rw [h0.1]) hne⟩
    · rw [h0.2]; decide
    · rw [cd_k_new, if_neg (by omega)]; exact a2
    · refine hq _ 10 (Or.inl rfl) (by omega) rfl (fun x hx => ?_) ?_ (fun x j hx => ?_) (fun x j hx => ?_) (fun x j hx hne => ?_) ?_ (fun j hj => by omega)
      · show cd_k (cd_new h _) x = _
        rw [cd_k_new, if_neg (by omega)]
      · show cd_k (cd_new h _) (cd_n h) = _
        rw [cd_k_new, if_pos rfl]
      · rw [cd_i_sr, cd_i_new, if_neg (by omega)]
      · rw [cd_l_sr, cd_l_new, if_neg (by omega)]
      · rw [cd_r_sr, if_neg hne, cd_r_new, if_neg (by omega)]
      · rw [cd_r_sr, if_pos ⟨rfl, rfl⟩]
theorem sp_AL_add {a b cap v c : Nat} {l : List Nat} (A : cc_lst h a l b cap) (hv : cd_k h v = some (.inl c)) (hca : cd_CA X c "java/lang/Object") (hlen : l.length ≤ 22) (hel : ∀ x, x ∈ l → ∃ c, cd_k h x = some (.inl c) ∧ cd_CA X c "java/lang/Object")
    (hq : ∀ h' b' cap', cd_ch (fun x => x = a ∨ (x = b ∧ 64 ≤ b)) h h' → cc_lst h' a (l ++ [v]) b' cap' → (b' = b ∨ b' = cd_n h) → cd_n h' ≤ cd_n h + 1 → Q (some (.int 1)) h') :
    cd_W X m_AL_add_LObjectZ (kc + 1) (ks + 40) 0 [some (.ref a), some (.ref v)] [] h Q := by
  refine cd_W.k0 (fun _ hnone hn => ?_)
  have A0 := A
  obtain ⟨a1, a2, a3, a4, a5, a6, a7, a8⟩ := A
  have hbd : ∀ x q, cd_k h x = some q → x < cd_n h := fun x q hx => by
    by_cases z : cd_n h ≤ x
    · rw [hnone x z] at hx; cases hx
    · omega
  have han := hbd _ _ a2
  have hbn := hbd _ _ a5
  have hab : a ≠ b := fun e => by rw [e, a5] at a2; cases a2
  have e1 : ∀ j, ¬ j = 2 → cd_i (cd_si h a 2 (cd_i h a 2 + 1)) a j = cd_i h a j := fun j hj => by rw [cd_i_si, if_neg (fun z => hj z.2)]
  refine g_AL_add_LObjectZ ⟨a2, a1, b, a4, ?_⟩
  rw [e1 1 (by decide), a3]
  have hlst : ∀ (h' : cd_H) (b' cap' : Nat), cd_k h' a = some (.inl 12) → cd_i h' a 1 = nI (l.length + 1) → cd_r h' a 0 = some b' → cd_k h' b' = some (.inr (5, cap')) → l.length < cap' → 64 ≤ b' → (cap' = 10 ∨ cap' = 15 ∨ cap' = 22 ∨ cap' = 33) → (∀ j, j < l.length → cd_r h' b' j = cd_r h b j) → cd_r h' b' l.length = some v → cc_lst h' a (l ++ [v]) b' cap' := by
    intro h' b' cap' q1 q2 q3 q4 q5 q6 q7 q8 q9
    refine ⟨a1, q1, by rw [List.length_append]; exact q2, q3, q4, by rw [List.length_append]; exact q5, Or.inr ⟨q6, q7⟩, fun j hj => ?_⟩
    rw [List.length_append] at hj
    have hj : j < l.length + 1 := hj
    by_cases e : j < l.length
    · rw [q8 j e, a8 j e, List.getElem?_append_left e]
    · have e2 : j = l.length := by omega
      subst e2
      rw [q9, List.getElem?_append_right (Nat.le_refl _), Nat.sub_self]
      rfl
  refine g_AL_add_LObjectALObjectIV (kc := 0) (ks := 0) ⟨cap, a5, fun hne => ?_, fun heq => ?_⟩
  · have hlt : l.length < cap := by
      by_cases e : l.length = cap
      · rw [e] at hne; exact absurd rfl hne
      · omega
    have h64 : 64 ≤ b ∧ cap ≤ 33 ∧ (cap = 10 ∨ cap = 15 ∨ cap = 22 ∨ cap = 33) := by omega
    refine ⟨h64.1, vp_in_nI hlt (by omega), c, hv, hca, a2, a1, rfl, ?_⟩
    rw [nI_clamp (by omega), nI_1]
    refine hq _ b cap ?_ (hlst _ b cap a2 ?_ ?_ a5 hlt h64.1 h64.2.2 (fun j hj => ?_) ?_) (Or.inl rfl) (Nat.le_succ _)
    · exact ((cd_ch.si (Or.inl rfl)).tr (cd_ch.sr (Or.inr ⟨rfl, h64.1⟩))).tr (cd_ch.si (Or.inl rfl))
    · rw [cd_i_si, if_pos ⟨rfl, rfl⟩]
    · rw [cd_r_si, cd_r_sr, if_neg (fun z => hab z.1)]; exact a4
    · rw [cd_r_si, cd_r_sr, if_neg (fun z => by omega)]; rfl
    · rw [cd_r_si, cd_r_sr, if_pos ⟨rfl, rfl⟩]
  · rw [nI_eq (by omega) (by omega)] at heq
    have A1 : cc_lst (cd_si h a 2 (cd_i h a 2 + 1)) a l b cap := ⟨a1, a2, by rw [e1 1 (by decide)]; exact a3, a4, a5, a6, a7, a8⟩
    refine ⟨a2, sp_AL_grow (kc := 0) (ks := 0) A1 heq (by omega) hn han hbn (fun i hi x hx => ?_) (fun h' cap' q0 q1 q2 q3 q4 q5 q6 q7 q8 q9 => ⟨_, rfl, cap', q4, hn, vp_in_nI (by omega) (by omega), c, ?_, hca, ?_, a1, rfl, ?_⟩)⟩
    · have hx : cd_r h b i = some x := hx
      rw [a8 i (by omega)] at hx
      obtain ⟨cx, r1, r2⟩ := hel x (List.mem_of_getElem? hx)
      exact ⟨cx, r1, hbd _ _ r1, r2⟩
    · have := q3 v (hbd _ _ hv)
      rw [this]; exact hv
    · have := q3 a han
      rw [this]; exact a2
    · rw [nI_clamp (by omega), nI_1]
      have hnv : ∀ x, x < cd_n h → ¬ x = cd_n (cd_si h a 2 (cd_i h a 2 + 1)) := fun x hx e => by
        have : x = cd_n h := e
        omega
      refine hq _ (cd_n h) cap' ⟨?_, fun x hx => ?_, fun x hx hA => ⟨fun j => ?_, fun j => ?_, fun j => ?_⟩⟩ (hlst _ (cd_n h) cap' ?_ ?_ ?_ ?_ (by omega) hn (by omega) (fun j hj => ?_) ?_) (Or.inr rfl) ?_
      · show cd_n h ≤ cd_n h'
        have q2 : cd_n h' = cd_n h + 1 := q2
        omega
      · exact q3 x hx
      · rw [cd_i_si, if_neg (fun z => hA (Or.inl z.1))]
        show cd_i h' x j = _
        rw [q5 x j hx, cd_i_si, if_neg (fun z => hA (Or.inl z.1))]
      · exact q6 x j hx
      · show cd_r (cd_sr h' _ _ _) x j = _
        rw [cd_r_sr, if_neg (fun z => hnv x hx z.1)]
        exact q7 x j hx (fun z => hA (Or.inl z.1))
      · show cd_k h' a = _
        rw [q3 a han]; exact a2
      · rw [cd_i_si, if_pos ⟨rfl, rfl⟩]
      · show cd_r (cd_sr h' _ _ _) a 0 = _
        rw [cd_r_sr, if_neg (fun z => hnv a han z.1)]
        exact q8
      · exact q4
      · show cd_r (cd_sr h' _ _ _) (cd_n h) j = _
        rw [cd_r_sr, if_neg (fun z => by omega)]
        exact q9 j (by omega)
      · show cd_r (cd_sr h' _ _ _) (cd_n h) l.length = _
        rw [cd_r_sr, if_pos ⟨rfl, rfl⟩]
      · show cd_n h' ≤ _
        have q2 : cd_n h' = cd_n h + 1 := q2
        omega
theorem sp_AL_init {a : Nat} (ha : 64 ≤ a) (hk : cd_k h a = some (.inl 12)) (h1 : cd_i h a 1 = 0) (hq : ∀ h', cd_ch (fun x => x = a) h h' → cd_n h' = cd_n h → cc_lst h' a [] 0 0 → Q none h') : cd_W X m_AL_init_V kc ks 0 [some (.ref a)] [] h Q := by
  refine cd_W.k0 (fun hk0 _ _ => ?_)
  refine g_AL_init_V (g_AbL_init (g_AbC_init ⟨rfl, hk, ha, rfl, hk, ha, hq _ ((cd_ch.si (A := fun x => x = a) rfl).tr (cd_ch.sr rfl)) rfl ⟨ha, hk, ?_, ?_, hk0 0 (by decide), Nat.le_refl _, Or.inl ⟨rfl, rfl⟩, fun j hj => by cases hj⟩⟩))
  · show cd_i (cd_si h a 2 0) a 1 = _
    rw [cd_i_si, if_neg (fun z => by cases z.2), h1]
    rfl
  · rw [cd_r_sr, if_pos ⟨rfl, rfl⟩]
end JLS
