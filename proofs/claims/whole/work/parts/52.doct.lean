def cc_oct (h : cd_H) (o ob : Nat) (l : List Nat) : Prop := 64 ≤ o ∧ cd_k h o = some (.inl 7) ∧ cd_r h o 0 = some ob ∧ 64 ≤ ob ∧ cd_k h ob = some (.inr (0, 80)) ∧ l.length ≤ 80 ∧ cd_i h o 1 = nI l.length ∧ ∀ j v, l[j]? = some v → cd_i h ob j = nI v
def cd_ci (A : Nat → Prop) (h h' : cd_H) : Prop := cd_n h' = cd_n h ∧ cd_k h' = cd_k h ∧ cd_r h' = cd_r h ∧ cd_l h' = cd_l h ∧ ∀ a j, ¬ A a → cd_i h' a j = cd_i h a j
theorem cd_ci.rf (A : Nat → Prop) (h : cd_H) : cd_ci A h h := ⟨rfl, rfl, rfl, rfl, fun _ _ _ => rfl⟩
theorem cd_ci.tr {A : Nat → Prop} {h h1 h2 : cd_H} (a : cd_ci A h h1) (b : cd_ci A h1 h2) : cd_ci A h h2 := ⟨b.1.trans a.1, b.2.1.trans a.2.1, b.2.2.1.trans a.2.2.1, b.2.2.2.1.trans a.2.2.2.1, fun x j hx => (b.2.2.2.2 x j hx).trans (a.2.2.2.2 x j hx)⟩
theorem cd_ci.si {A : Nat → Prop} {h : cd_H} {a k : Nat} {x : Int32} (hA : A a) : cd_ci A h (cd_si h a k x) := ⟨rfl, rfl, rfl, rfl, fun b j hx => by rw [cd_i_si, if_neg (fun z => hx (by rw [z.1]; exact hA))]⟩
theorem cd_ci.ok {A : Nat → Prop} {h h' : cd_H} (a : cd_ci A h h') (F : cc_ok h) : cc_ok h' := F.of a.2.1 a.2.2.1
theorem cd_ci.ch {A : Nat → Prop} {h h' : cd_H} (a : cd_ci A h h') : cd_ch A h h' := ⟨Nat.le_of_eq a.1.symm, fun x _ => by rw [a.2.1], fun x _ hx => ⟨fun j => a.2.2.2.2 x j hx, fun j => by rw [a.2.2.2.1], fun j => by rw [a.2.2.1]⟩⟩
section VOC
variable {X : cd_E} {kc ks : Nat} {h : cd_H} {Q : Option Value → cd_H → Prop} {o ob : Nat} {l : List Nat}
theorem sp_Oct_put (F : cc_ok h) (O : cc_oct h o ob l) (hl : l.length < 80) {v : Nat} (hq : ∀ h', cd_ci (fun x => x = o ∨ x = ob) h h' → cc_oct h' o ob (l ++ [v]) → Q none h') : cd_W X m_Oct_put kc ks 0 [some (.ref o), some (.int (nI v))] [] h Q := by
  obtain ⟨o0, o1, o2, o3, o4, o5, o6, o7⟩ := O
  have hne : ¬ o = ob := fun z => by rw [z, o4] at o1; cases o1
  refine g_Oct_put F ⟨o1, ?_⟩
  rw [o6, show (80 : Int32) = nI 80 by decide, nI_leI (by decide) (by omega), nI_clamp (by omega)]
  refine ⟨fun t => by omega, fun _ => ⟨ob, o2, 80, o4, o3, vp_in_nI hl (by decide), o0, ?_⟩⟩
  have C : cd_ci (fun x => x = o ∨ x = ob) h (cd_si h ob l.length (nI v)) := cd_ci.si (Or.inr rfl)
  refine hq _ (C.tr (cd_ci.si (Or.inl rfl))) ⟨o0, o1, o2, o3, o4, ?_, ?_, fun j w hj => ?_⟩
  · rw [List.length_append, List.length_singleton]; omega
  · rw [cd_i_si, if_pos ⟨rfl, rfl⟩, cd_i_si, if_neg (fun z => hne z.1), o6, nI_1, List.length_append, List.length_singleton]
  · rw [cd_i_si, if_neg (fun z => hne z.1.symm), cd_i_si]
    by_cases e : j < l.length
    · rw [if_neg (fun z => by omega)]
      rw [List.getElem?_append_left e] at hj
      exact o7 j w hj
    · rw [List.getElem?_append_right (by omega)] at hj
      have hlt := (List.getElem?_eq_some_iff.mp hj).1
      rw [List.length_singleton] at hlt
      have ej : j = l.length := by omega
      subst ej
      rw [Nat.sub_self] at hj
      cases hj
      rw [if_pos ⟨rfl, rfl⟩]
theorem sp_Oct_openRow (F : cc_ok h) (O : cc_oct h o ob l) (hl : l.length + 2 ≤ 80) (hq : ∀ h', cd_ci (fun x => x = o ∨ x = ob) h h' → cc_oct h' o ob (l ++ [48, 0]) → Q (some (.int (nI l.length))) h') : cd_W X m_Oct_openRow kc ks 0 [some (.ref o), none] [] h Q := by
  refine g_Oct_openRow F ⟨O.2.1, ?_⟩
  rw [O.2.2.2.2.2.2.1]
  show cd_W X m_Oct_put 0 0 0 [some (.ref o), some (.int (nI 48))] [] h _
  refine sp_Oct_put F O (by omega) (fun h1 C1 O1 => ⟨rfl, C1.ok F, O1.2.1, ?_⟩)
  show cd_W X m_Oct_put 0 0 0 [some (.ref o), some (.int (nI 0))] [] h1 _
  refine sp_Oct_put (C1.ok F) O1 (by rw [List.length_append, List.length_singleton]; omega) (fun h2 C2 O2 => ⟨rfl, C2.ok (C1.ok F), hq h2 (C1.tr C2) ?_⟩)
  rw [List.append_assoc] at O2
  exact O2
theorem sp_Oct_closeRow {l1 l2 : List Nat} (F : cc_ok h) (O : cc_oct h o ob (l1 ++ 48 :: 0 :: l2)) (hq : ∀ h', cd_ci (fun x => x = o ∨ x = ob) h h' → cc_oct h' o ob (l1 ++ sg_row l2) → Q none h') : cd_W X m_Oct_closeRow kc ks 0 [some (.ref o), some (.int (nI l1.length))] [] h Q := by
  obtain ⟨o0, o1, o2, o3, o4, o5, o6, o7⟩ := O
  have hne : ¬ o = ob := fun z => by rw [z, o4] at o1; cases o1
  have hlen : (l1 ++ 48 :: 0 :: l2).length = l1.length + 2 + l2.length := by rw [List.length_append, List.length_cons, List.length_cons]; omega
  rw [hlen] at o5 o6
  refine g_Oct_closeRow F ⟨fun t => absurd t (nI_pos (by omega)), fun _ => ⟨o1, ?_⟩⟩
  rw [nI_1, o6, nI_leI (by omega) (by omega), nI_clamp (by omega), pk_sub (by omega), show (2 : Int32) = nI 2 by decide, pk_sub (by omega)]
  refine ⟨fun t => by omega, fun _ => ⟨ob, o2, 80, o4, o3, vp_in_nI (by omega) (by decide), ?_⟩⟩
  have hrl : (l1 ++ sg_row l2).length = l1.length + 2 + l2.length := by rw [List.length_append, sg_row, List.length_cons, List.length_cons]; omega
  refine hq _ (cd_ci.si (Or.inr rfl)) ⟨o0, o1, o2, o3, o4, by omega, ?_, fun j v hj => ?_⟩
  · rw [cd_i_si, if_neg (fun z => hne z.1), hrl]
    exact o6
  · rw [cd_i_si]
    by_cases ej : j = l1.length + 1
    · rw [ej, List.getElem?_append_right (by omega), show l1.length + 1 - l1.length = 1 by omega] at hj
      cases hj
      rw [if_pos ⟨rfl, ej⟩]
      congr 1
      omega
    · rw [if_neg (fun z => ej z.2)]
      refine o7 j v ?_
      by_cases e : j < l1.length
      · rw [List.getElem?_append_left e] at hj ⊢
        exact hj
      · rw [List.getElem?_append_right (by omega)] at hj ⊢
        by_cases e0 : j = l1.length
        · rw [e0, Nat.sub_self] at hj ⊢
          exact hj
        · obtain ⟨q, hq2⟩ : ∃ q, j - l1.length = q + 2 := ⟨j - l1.length - 2, by omega⟩
          rw [hq2] at hj ⊢
          exact hj
theorem sp_Oct_putHighestFirst_4 {v : Nat} (hv : v < 2 ^ 31) : ∀ (c : Nat) (h : cd_H) (l : List Nat), c ≤ 4 → cc_ok h → cc_oct h o ob l → l.length + c ≤ 80 → (∀ h', cd_ci (fun x => x = o ∨ x = ob) h h' → cc_oct h' o ob (l ++ sg_bs v c) → Q none h') → cd_W X m_Oct_putHighestFirst kc ks 4 [some (.ref o), some (.int (nI v)), none, some (.int (nI c - 1))] [] h Q := by
  intro c
  induction c with
  | zero =>
    intro h l hc F O hl hq
    refine g_Oct_putHighestFirst_4 F ⟨fun _ => hq h (cd_ci.rf _ _) ?_, fun t => absurd (by decide) t⟩
    rw [sg_bs, List.append_nil]
    exact O
  | succ c ih =>
    intro h l hc F O hl hq
    rw [nI_pred]
    refine g_Oct_putHighestFirst_4 F ⟨fun t => absurd t (nI_pos (by omega)), fun _ => ⟨O.2.1, ?_⟩⟩
    rw [cd_byteI hv (by omega)]
    refine sp_Oct_put F O (by omega) (fun h' C' O' => ⟨rfl, C'.ok F, ?_⟩)
    rw [← Int32.sub_eq_add_neg]
    refine ih h' _ (by omega) (C'.ok F) O' (by rw [List.length_append, List.length_singleton]; omega) (fun h2 C2 O2 => hq h2 (C'.tr C2) ?_)
    rw [List.append_assoc] at O2
    exact O2
theorem sp_Oct_putHighestFirst {v c : Nat} (hv : v < 2 ^ 31) (hc : c ≤ 4) (F : cc_ok h) (O : cc_oct h o ob l) (hl : l.length + c ≤ 80) (hq : ∀ h', cd_ci (fun x => x = o ∨ x = ob) h h' → cc_oct h' o ob (l ++ sg_bs v c) → Q none h') : cd_W X m_Oct_putHighestFirst kc ks 0 [some (.ref o), some (.int (nI v)), some (.int (nI c)), none] [] h Q :=
  g_Oct_putHighestFirst F (sp_Oct_putHighestFirst_4 hv c h l hc F O hl hq)
theorem sp_Oct_putInteger {v : Nat} (hv : v < 2 ^ 31) (F : cc_ok h) (O : cc_oct h o ob l) (hl : l.length + 6 ≤ 80) (hq : ∀ h', cd_ci (fun x => x = o ∨ x = ob) h h' → cc_oct h' o ob (l ++ sg_int v) → Q none h') : cd_W X m_Oct_putInteger kc ks 0 [some (.ref o), some (.int (nI v)), none] [] h Q := by
  have hb := sg_bc_le v
  have body : ∀ c, c ≤ 4 → sg_bc v = c → cd_W X m_Oct_put 0 0 0 [some (.ref o), some (.int (nI 2))] [] h (fun r16 h17 => (r16 = none) ∧ ((cc_ok h17) ∧ ((cd_k h17 o = some (.inl 7)) ∧ (cd_W X m_Oct_put 0 0 0 [some (.ref o), some (.int (nI c))] [] h17 (fun r20 h21 => (r20 = none) ∧ ((cc_ok h21) ∧ ((cd_k h21 o = some (.inl 7)) ∧ (cd_W X m_Oct_putHighestFirst 0 0 0 [some (.ref o), some (.int (nI v)), some (.int (nI c)), none] [] h21 (fun r24 h25 => (r24 = none) ∧ ((cc_ok h25) ∧ (Q none h25)))))))))))  := by
    intro c hc4 hbc
    refine sp_Oct_put F O (by omega) (fun h1 C1 O1 => ⟨rfl, C1.ok F, O1.2.1, ?_⟩)
    have l1 : (l ++ [2]).length = l.length + 1 := by rw [List.length_append, List.length_singleton]
    refine sp_Oct_put (C1.ok F) O1 (by omega) (fun h2 C2 O2 => ⟨rfl, C2.ok (C1.ok F), O2.2.1, ?_⟩)
    have l2 : (l ++ [2] ++ [c]).length = l.length + 2 := by rw [List.length_append, List.length_singleton, l1]
    refine sp_Oct_putHighestFirst hv hc4 (C2.ok (C1.ok F)) O2 (by omega) (fun h3 C3 O3 => ⟨rfl, C3.ok (C2.ok (C1.ok F)), hq h3 ((C1.tr C2).tr C3) ?_⟩)
    rw [sg_int, hbc]
    simp only [List.append_assoc, List.cons_append, List.nil_append] at O3
    exact O3
  have sh : ∀ c, 1 ≤ c → c ≤ 3 → (nI v >>> (((8 * nI c) - 1) &&& 31) = 0 ↔ v < 2 ^ (8 * c - 1)) := fun c h1 h3 => by
    have hd : (((8 * nI c - 1) &&& 31).toBitVec.smod 32).toNat = 8 * c - 1 := by
      have : c = 1 ∨ c = 2 ∨ c = 3 := by omega
      rcases this with rfl | rfl | rfl <;> decide
    have hl : v / 2 ^ (8 * c - 1) ≤ v := Nat.div_le_self _ _
    rw [pk_shrN hv _ _ hd, show (0 : Int32) = nI 0 by decide, nI_eq (by omega) (by decide)]
    exact Nat.div_eq_zero_iff_lt (Nat.two_pow_pos _)
  have fin : ∀ c, 1 ≤ c → c ≤ 3 → v < 2 ^ (8 * c - 1) → sg_bc v = c → cd_W X m_Oct_putInteger kc ks 2 [some (.ref o), some (.int (nI v)), some (.int (nI c))] [] h Q := by
    intro c h1 h4 hlt hb
    refine g_Oct_putInteger_2 F ⟨fun t => ?_, fun _ => ⟨fun _ => ⟨O.2.1, body c (by omega) hb⟩, fun t => absurd ((sh c h1 h4).mpr hlt) t⟩⟩
    rw [show (4 : Int32) = nI 4 by decide, nI_leI (by decide) (by omega)] at t
    omega
  have stp : ∀ c, 1 ≤ c → c ≤ 3 → ¬ v < 2 ^ (8 * c - 1) → cd_W X m_Oct_putInteger kc ks 2 [some (.ref o), some (.int (nI v)), some (.int (nI (c + 1)))] [] h Q → cd_W X m_Oct_putInteger kc ks 2 [some (.ref o), some (.int (nI v)), some (.int (nI c))] [] h Q := by
    intro c h1 h4 hlt k
    refine g_Oct_putInteger_2 F ⟨fun t => ?_, fun _ => ⟨fun t => absurd ((sh c h1 h4).mp t) hlt, fun _ => ?_⟩⟩
    · rw [show (4 : Int32) = nI 4 by decide, nI_leI (by decide) (by omega)] at t
      omega
    · rw [nI_1]
      exact k
  refine g_Oct_putInteger F ?_
  show cd_W X m_Oct_putInteger kc ks 2 [some (.ref o), some (.int (nI v)), some (.int (nI 1))] [] h Q
  by_cases a : v < 2 ^ 7
  · exact fin 1 (by decide) (by decide) a (by rw [sg_bc, if_pos a])
  · refine stp 1 (by decide) (by decide) a ?_
    by_cases b : v < 2 ^ 15
    · exact fin 2 (by decide) (by decide) b (by rw [sg_bc, if_neg a, if_pos b])
    · refine stp 2 (by decide) (by decide) b ?_
      by_cases c : v < 2 ^ 23
      · exact fin 3 (by decide) (by decide) c (by rw [sg_bc, if_neg a, if_neg b, if_pos c])
      · refine stp 3 (by decide) (by decide) c (g_Oct_putInteger_2 F ⟨fun _ => ⟨O.2.1, body 4 (by decide) (by rw [sg_bc, if_neg a, if_neg b, if_neg c])⟩, fun t => absurd (by decide) t⟩)
theorem cc_str.ci {A : Nat → Prop} {h h' : cd_H} {a len : Nat} {N : Nat → Nat} (S : cc_str h a N len) (C : cd_ci A h h') (hA : ∀ x, A x → ¬ cd_k h x = some (.inl 13) ∧ ∀ n, ¬ cd_k h x = some (.inr (3, n))) : cc_str h' a N len := by
  obtain ⟨s1, s2, s3, b, s4, s5, s6⟩ := S
  refine ⟨by rw [C.2.1]; exact s1, by rw [C.2.2.2.2 a 1 (fun z => (hA a z).1 s1)]; exact s2, s3, b, by rw [C.2.2.1]; exact s4, by rw [C.2.1]; exact s5, fun j hj => ?_⟩
  rw [C.2.2.2.2 b j (fun z => (hA b z).2 _ s5)]
  exact s6 j hj
theorem cc_oct.nst (O : cc_oct h o ob l) : ∀ x, (x = o ∨ x = ob) → ¬ cd_k h x = some (.inl 13) ∧ ∀ n, ¬ cd_k h x = some (.inr (3, n)) := fun x hx => by
  rcases hx with rfl | rfl
  · rw [O.2.1]
    exact ⟨(fun z => by cases z), fun n z => by cases z⟩
  · rw [O.2.2.2.2.1]
    exact ⟨(fun z => by cases z), fun n z => by cases z⟩
theorem sp_Oct_putName_17 {s len : Nat} {N : Nat → Nat} (hlen : len ≤ 12) : ∀ (i j : Nat) (h : cd_H) (l : List Nat), i + j = len → cc_ok h → cc_oct h o ob l → l.length + i ≤ 80 → cc_str h s N len → (∀ h', cd_ci (fun x => x = o ∨ x = ob) h h' → cc_oct h' o ob (l ++ (List.range' j i).map N) → Q none h') → cd_W X m_Oct_putName kc ks 17 [some (.ref o), some (.ref s), some (.int (nI j))] [] h Q := by
  intro i
  induction i with
  | zero =>
    intro j h l hj F O hl S hq
    refine g_Oct_putName_17 F ⟨S.1, sp_Str_length S ⟨_, rfl, F, ?_⟩⟩
    rw [nI_leI (by omega) (by omega)]
    refine ⟨fun _ => hq h (cd_ci.rf _ _) ?_, fun t => by omega⟩
    rw [List.range'_zero, List.map_nil, List.append_nil]
    exact O
  | succ i ih =>
    intro j h l hj F O hl S hq
    refine g_Oct_putName_17 F ⟨S.1, sp_Str_length S ⟨_, rfl, F, ?_⟩⟩
    rw [nI_leI (by omega) (by omega)]
    refine ⟨fun t => by omega, fun _ => ⟨S.1, sp_Str_charAt S (by omega) ⟨_, rfl, F, O.2.1, ?_⟩⟩⟩
    refine sp_Oct_put F O (by omega) (fun h' C' O' => ⟨rfl, C'.ok F, ?_⟩)
    rw [nI_1]
    refine ih (j + 1) h' _ (by omega) (C'.ok F) O' (by rw [List.length_append, List.length_singleton]; omega) (S.ci C' O.nst) (fun h2 C2 O2 => hq h2 (C'.tr C2) ?_)
    rw [List.range'_succ, List.map_cons]
    rw [List.append_assoc] at O2
    exact O2
theorem sp_Oct_putName {s len : Nat} {N : Nat → Nat} (hlen : len ≤ 12) (F : cc_ok h) (O : cc_oct h o ob l) (hl : l.length + 14 ≤ 80) (S : cc_str h s N len) (hq : ∀ h', cd_ci (fun x => x = o ∨ x = ob) h h' → cc_oct h' o ob (l ++ sg_nm1 (len, N)) → Q none h') : cd_W X m_Oct_putName kc ks 0 [some (.ref o), some (.ref s), none] [] h Q := by
  refine g_Oct_putName F ⟨O.2.1, ?_⟩
  show cd_W X m_Oct_put 0 0 0 [some (.ref o), some (.int (nI 130))] [] h _
  refine sp_Oct_put F O (by omega) (fun h1 C1 O1 => ⟨rfl, C1.ok F, ?_⟩)
  have S1 := S.ci C1 O.nst
  refine ⟨S1.1, sp_Str_length S1 ⟨_, rfl, C1.ok F, O1.2.1, ?_⟩⟩
  refine sp_Oct_put (C1.ok F) O1 (by rw [List.length_append, List.length_singleton]; omega) (fun h2 C2 O2 => ⟨rfl, C2.ok (C1.ok F), ?_⟩)
  have S2 := S1.ci C2 O1.nst
  show cd_W X m_Oct_putName kc ks 17 [some (.ref o), some (.ref s), some (.int (nI 0))] [] h2 Q
  refine sp_Oct_putName_17 hlen len 0 h2 _ (by omega) (C2.ok (C1.ok F)) O2 (by simp only [List.length_append, List.length_singleton]; omega) S2 (fun h3 C3 O3 => hq h3 ((C1.tr C2).tr C3) ?_)
  rw [sg_nm1]
  simp only [List.append_assoc, List.cons_append, List.nil_append] at O3
  exact O3
theorem sp_Oct_putSeal {v : Nat} (hv : v < 2 ^ 31) (F : cc_ok h) (O : cc_oct h o ob l) (hl : l.length + 7 ≤ 80) (hq : ∀ h', cd_ci (fun x => x = o ∨ x = ob) h h' → cc_oct h' o ob (l ++ sg_slL v) → Q none h') : cd_W X m_Oct_putSeal kc ks 0 [some (.ref o), some (.int (nI v))] [] h Q := by
  refine g_Oct_putSeal F ⟨O.2.1, ?_⟩
  show cd_W X m_Oct_put 0 0 0 [some (.ref o), some (.int (nI 3))] [] h _
  refine sp_Oct_put F O (by omega) (fun h1 C1 O1 => ⟨rfl, C1.ok F, O1.2.1, ?_⟩)
  show cd_W X m_Oct_put 0 0 0 [some (.ref o), some (.int (nI 5))] [] h1 _
  refine sp_Oct_put (C1.ok F) O1 (by rw [List.length_append, List.length_singleton]; omega) (fun h2 C2 O2 => ⟨rfl, C2.ok (C1.ok F), O2.2.1, ?_⟩)
  have C12 := C1.tr C2
  show cd_W X m_Oct_put 0 0 0 [some (.ref o), some (.int (nI 0))] [] h2 _
  refine sp_Oct_put (C12.ok F) O2 (by simp only [List.length_append, List.length_singleton]; omega) (fun h3 C3 O3 => ⟨rfl, C3.ok (C12.ok F), O3.2.1, ?_⟩)
  have C13 := C12.tr C3
  show cd_W X m_Oct_putHighestFirst 0 0 0 [some (.ref o), some (.int (nI v)), some (.int (nI 4)), none] [] h3 _
  refine sp_Oct_putHighestFirst hv (by decide) (C13.ok F) O3 (by simp only [List.length_append, List.length_singleton]; omega) (fun h4 C4 O4 => ⟨rfl, C4.ok (C13.ok F), hq h4 (C13.tr C4) ?_⟩)
  rw [sg_slL]
  simp only [List.append_assoc, List.cons_append, List.nil_append] at O4
  exact O4
theorem sp_Oct_at (F : cc_ok h) (O : cc_oct h o ob l) {k : Int32} (hq : Q (some (.int (match l[sg_ix k]? with
  | none => -1
  | some v => nI v))) h) : cd_W X m_Oct_at kc ks 0 [some (.ref o), some (.int k)] [] h Q := by
  obtain ⟨o0, o1, o2, o3, o4, o5, o6, o7⟩ := O
  refine g_Oct_at F ⟨fun t => ?_, fun t => ⟨o1, ?_⟩⟩
  · rw [sg_ix_neg t (by omega)] at hq
    exact hq
  · obtain ⟨j, hj, rfl⟩ := nI_of t
    rw [sg_ix_nI hj] at hq
    rw [o6, nI_leI (by omega) hj, nI_clamp hj]
    refine ⟨fun t2 => ?_, fun t2 => ⟨ob, o2, 80, o4, vp_in_nI (by omega) (by decide), ?_⟩⟩
    · rw [List.getElem?_eq_none t2] at hq
      exact hq
    · have e : l[j]? = some (l[j]'(by omega)) := List.getElem?_eq_getElem (by omega)
      rw [e] at hq
      rw [o7 j _ e]
      exact hq
theorem sp_Oct_digestFrom_5 (F : cc_ok h) (O : cc_oct h o ob l) (hb : ∀ v, v ∈ l → v < 65536) : ∀ (i j d : Nat), i + j = l.length → d < 2147483647 → Q (some (.int (nI ((l.drop j).foldl cd_dg d)))) h → cd_W X m_Oct_digestFrom kc ks 5 [some (.ref o), none, some (.int (nI d)), some (.int (nI j))] [] h Q := by
  have O0 := O
  obtain ⟨o0, o1, o2, o3, o4, o5, o6, o7⟩ := O
  intro i
  induction i with
  | zero =>
    intro j d hj hd hq
    rw [List.drop_of_length_le (by omega)] at hq
    refine g_Oct_digestFrom_5 F ⟨o1, ?_⟩
    rw [o6, nI_leI (by omega) (by omega)]
    exact ⟨fun _ => hq, fun t => by omega⟩
  | succ i ih =>
    intro j d hj hd hq
    have hlt : j < l.length := by omega
    have e : l[j]? = some l[j] := List.getElem?_eq_getElem hlt
    have hbv := hb _ (List.getElem_mem hlt)
    rw [List.drop_eq_getElem_cons hlt, List.foldl_cons] at hq
    refine g_Oct_digestFrom_5 F ⟨o1, ?_⟩
    rw [o6, nI_leI (by omega) (by omega)]
    refine ⟨fun t => by omega, fun _ => sp_Oct_at F O0 ⟨_, rfl, F, ?_⟩⟩
    rw [sg_ix_nI (by omega), e]
    refine sp_Dig_with F hd (by omega) ⟨_, rfl, F, ?_⟩
    rw [nI_1]
    exact ih (j + 1) _ (by omega) (cd_dg_lt _ _) hq
end VOC
