def cm_MF (m x j : Nat) : Prop := cm_MK m x j ∨ (x = 82 ∧ j = 17) ∨ ((x = 92 ∨ x = 93 ∨ x = 94 ∨ x = 96) ∧ j = m)
section VMX
variable {X : cd_E} {kc ks : Nat} {h h' : cd_H} {Q : Option Value → cd_H → Prop} {T : Nat → Nat} {n life now cr gv us w : Nat} {sp : Nat → Bool} {ct : Option Nat} {NW : Nat → Option Nat} {AC AC' : List sg_A} {AU AU' : List sg_U} {OR : List sg_O} {CE : List sg_C}
theorem cm_MF.no {m x j : Nat} (a : x = 82 → ¬ j = 23 ∧ ¬ j = 17) (b : ¬ (92 ≤ x ∧ x ≤ 100)) (c : ¬ x = 113) : ¬ cm_MF m x j := fun z => by
  rcases z with (z | z | z | z | z | z | z) | z | z
  · exact (a z.1).1 z.2
  · omega
  · omega
  · omega
  · omega
  · omega
  · omega
  · exact (a z.1).2 z.2
  · omega
theorem sp_mk_row {i len : Nat} {ps : List Nat} (R : cm_R h T n life now NW AC AU OR CE) (hm : OR.length < 12) (hi : i < AC.length) (hlen : ps.length = len) (h3 : len ≤ 3) (hp : ∀ j p, ps[j]? = some p → cd_i h 95 (3 * OR.length + j) = nI p ∧ p < AU.length) : cm_R (cd_si (cd_si (cd_si (cd_si (cd_si h 92 OR.length (nI i)) 93 OR.length (nI now)) 94 OR.length (nI len)) 96 OR.length (-1)) 82 17 (nI (OR.length + 1))) T n life now NW AC AU (OR ++ [(i, now, ps, none)]) CE := by
  obtain ⟨F, Z, K, Ky, W, A, U, O, Ce⟩ := R
  have C : cm_ch (fun x j => (x = 82 ∧ j = 17) ∨ ((x = 92 ∨ x = 93 ∨ x = 94 ∨ x = 96) ∧ j = OR.length)) h (cd_si (cd_si (cd_si (cd_si (cd_si h 92 OR.length (nI i)) 93 OR.length (nI now)) 94 OR.length (nI len)) 96 OR.length (-1)) 82 17 (nI (OR.length + 1))) := ((((cm_ch.si (Or.inr ⟨Or.inl rfl, rfl⟩)).tr (cm_ch.si (Or.inr ⟨Or.inr (Or.inl rfl), rfl⟩))).tr (cm_ch.si (Or.inr ⟨Or.inr (Or.inr (Or.inl rfl)), rfl⟩))).tr (cm_ch.si (Or.inr ⟨Or.inr (Or.inr (Or.inr rfl)), rfl⟩))).tr (cm_ch.si (Or.inl ⟨rfl, rfl⟩))
  have x17 : cd_i (cd_si (cd_si (cd_si (cd_si (cd_si h 92 OR.length (nI i)) 93 OR.length (nI now)) 94 OR.length (nI len)) 96 OR.length (-1)) 82 17 (nI (OR.length + 1))) 82 17 = nI (OR.length + 1) := by rw [cd_i_si, if_pos ⟨rfl, rfl⟩]
  have x96 : cd_i (cd_si (cd_si (cd_si (cd_si (cd_si h 92 OR.length (nI i)) 93 OR.length (nI now)) 94 OR.length (nI len)) 96 OR.length (-1)) 82 17 (nI (OR.length + 1))) 96 OR.length = -1 := by rw [cd_i_si, if_neg (by omega), cd_i_si, if_pos ⟨rfl, rfl⟩]
  have x94 : cd_i (cd_si (cd_si (cd_si (cd_si (cd_si h 92 OR.length (nI i)) 93 OR.length (nI now)) 94 OR.length (nI len)) 96 OR.length (-1)) 82 17 (nI (OR.length + 1))) 94 OR.length = nI len := by rw [cd_i_si, if_neg (by omega), cd_i_si, if_neg (by omega), cd_i_si, if_pos ⟨rfl, rfl⟩]
  have x93 : cd_i (cd_si (cd_si (cd_si (cd_si (cd_si h 92 OR.length (nI i)) 93 OR.length (nI now)) 94 OR.length (nI len)) 96 OR.length (-1)) 82 17 (nI (OR.length + 1))) 93 OR.length = nI now := by rw [cd_i_si, if_neg (by omega), cd_i_si, if_neg (by omega), cd_i_si, if_neg (by omega), cd_i_si, if_pos ⟨rfl, rfl⟩]
  have x92 : cd_i (cd_si (cd_si (cd_si (cd_si (cd_si h 92 OR.length (nI i)) 93 OR.length (nI now)) 94 OR.length (nI len)) 96 OR.length (-1)) 82 17 (nI (OR.length + 1))) 92 OR.length = nI i := by rw [cd_i_si, if_neg (by omega), cd_i_si, if_neg (by omega), cd_i_si, if_neg (by omega), cd_i_si, if_neg (by omega), cd_i_si, if_pos ⟨rfl, rfl⟩]
  generalize cd_si (cd_si (cd_si (cd_si (cd_si h 92 OR.length (nI i)) 93 OR.length (nI now)) 94 OR.length (nI len)) 96 OR.length (-1)) 82 17 (nI (OR.length + 1)) = hX at *
  have e : ∀ x j, ¬ ((x = 82 ∧ j = 17) ∨ ((x = 92 ∨ x = 93 ∨ x = 94 ∨ x = 96) ∧ j = OR.length)) → cd_i hX x j = cd_i h x j := C.2.2.2
  refine ⟨C.ok F, Z.of (fun x j hx => e x j (by omega)), K.of (fun j hj => e 82 j (by omega)), Ky.of (fun x j hx => e x j (by omega)), W.of (fun x j hx => e x j (by omega)), A.of (fun x j hx => e x j (by omega)), U.of (fun x j hx => e x j (by omega)), ?_, Ce.of (by rw [List.length_append]; omega) (fun x j hx => e x j (by omega))⟩
  refine ⟨by rw [List.length_append, List.length_singleton]; omega, by rw [List.length_append, List.length_singleton]; exact x17, fun j o ho => ?_⟩
  by_cases ej : j < OR.length
  · rw [List.getElem?_append_left ej] at ho
    obtain ⟨d1, d2, d3, d4, d5, d6, d7, d8, d9⟩ := O.2.2 j o ho
    exact ⟨d1, by rw [e 92 j (by omega)]; exact d2, by rw [e 93 j (by omega)]; exact d3, d4, d5, by rw [e 94 j (by omega)]; exact d6, fun k p hp => ⟨by rw [e 95 _ (by omega)]; exact (d7 k p hp).1, (d7 k p hp).2⟩, by rw [e 96 j (by omega)]; exact d8, d9⟩
  · have hjl := (List.getElem?_eq_some_iff.mp ho).1
    rw [List.length_append, List.length_singleton] at hjl
    have ejj : j = OR.length := by omega
    rw [ejj, List.getElem?_append_right (Nat.le_refl _), Nat.sub_self] at ho
    cases ho
    rw [ejj]
    exact ⟨hi, x92, x93, Nat.le_refl _, by show ps.length ≤ 3; omega, by show _ = nI ps.length; rw [hlen]; exact x94, fun k p hk => ⟨by rw [e 95 _ (by omega)]; exact (hp k p hk).1, (hp k p hk).2⟩, x96, fun c hc => by cases hc⟩
theorem sp_Mod_make_2 {P : Nat → Option Nat} {l : List Nat} {i : Nat} (hl : l.length ≤ 3) (hi : i < AC.length) (hm : OR.length < 12) (hls : ∀ q, q ∈ l → ∃ c, tx_s T n q = some c) (hnm : ∀ q, q ∈ l → sg_sl T n q ≤ 12) : ∀ (r k : Nat) (h : cd_H) (AU : List sg_U) (ps : List Nat), r + k = l.length → cm_R h T n life now NW AC AU OR CE → (∀ j q, l[j]? = some q → cd_i h 112 j = nI q) → (∀ j q, k ≤ j → l[j]? = some q → cd_i h 113 j = cd_op (P q)) → AU.length + sg_frs P (l.drop k) ≤ 24 → (∀ q a, P q = some a → a < AU.length) → ps.length = k → (∀ j p, ps[j]? = some p → cd_i h 95 (3 * OR.length + j) = nI p ∧ p < AU.length) → (∀ h', cm_ch (cm_MF OR.length) h h' → cm_R h' T n life now NW AC (sg_mk P T n i now (l.drop k) AU).1 (OR ++ [(i, now, ps ++ (sg_mk P T n i now (l.drop k) AU).2, none)]) CE → Q none h') → cd_W X m_Mod_make kc ks 2 [some (.ref 82), some (.int (nI i)), some (.int (nI l.length)), some (.int (nI k)), none] [] h Q := by
  intro r
  induction r with
  | zero =>
    intro k h AU ps hk R e112 e113 hfr hPl hps hp hq
    have F := R.1
    have e17 : cd_i h 82 17 = nI OR.length := R.2.2.2.2.2.2.2.1.2.1
    have e9 : cd_i h 82 9 = nI now := R.2.2.1.2.2.2
    have a4 := R.2.2.2.2.2.1.1
    have cm : (nI OR.length).toNatClampNeg = OR.length := nI_clamp (by omega)
    rw [List.drop_of_length_le (by omega), sg_mk] at hq
    simp only [List.append_nil] at hq
    refine g_Mod_make_2 F ?_
    rw [nI_leI (by omega) (by omega)]
    refine ⟨fun _ => ?_, fun t => by omega⟩
    simp only [cd_ne (show ¬ (82 : Nat) = 92 by decide), cd_ne (show ¬ (82 : Nat) = 93 by decide), cd_ne (show ¬ (82 : Nat) = 94 by decide), cd_ne (show ¬ (82 : Nat) = 96 by decide), e17, e9, cm, nI_1]
    refine ⟨vp_in_nI hm (by decide), vp_in_nI hm (by decide), vp_in_nI hm (by decide), vp_in_nI hm (by decide), hq _ ?_ (sp_mk_row R hm hi (by omega) hl hp)⟩
    exact ((((cm_ch.si (Or.inr (Or.inr ⟨Or.inl rfl, rfl⟩))).tr (cm_ch.si (Or.inr (Or.inr ⟨Or.inr (Or.inl rfl), rfl⟩)))).tr (cm_ch.si (Or.inr (Or.inr ⟨Or.inr (Or.inr (Or.inl rfl)), rfl⟩)))).tr (cm_ch.si (Or.inr (Or.inr ⟨Or.inr (Or.inr (Or.inr rfl)), rfl⟩)))).tr (cm_ch.si (Or.inr (Or.inl ⟨rfl, rfl⟩)))
  | succ r ih =>
    intro k h AU ps hk R e112 e113 hfr hPl hps hp hq
    have F := R.1
    have Z := R.2.1
    have U := R.2.2.2.2.2.2.1
    have u1 := U.1
    have e17 : cd_i h 82 17 = nI OR.length := R.2.2.2.2.2.2.2.1.2.1
    have e9 : cd_i h 82 9 = nI now := R.2.2.1.2.2.2
    have e23 : cd_i h 82 23 = nI AU.length := U.2.1
    have a4 := R.2.2.2.2.2.1.1
    have hlt : k < l.length := by omega
    have el : l[k]? = some l[k] := List.getElem?_eq_getElem hlt
    have hmem := List.getElem_mem hlt
    obtain ⟨c, hs⟩ := hls _ hmem
    have hname := hnm _ hmem
    rw [List.drop_eq_getElem_cons hlt] at hq hfr
    generalize hqq : l[k] = q at *
    have ck : (nI k).toNatClampNeg = k := nI_clamp (by omega)
    have e3 : (3 : Int32) * nI OR.length + nI k = nI (3 * OR.length + k) := by rw [show (3 : Int32) = nI 3 by decide, pk_mul, nI_add]
    have c3 : (nI (3 * OR.length + k)).toNatClampNeg = 3 * OR.length + k := nI_clamp (by omega)
    have eP := e113 k q (Nat.le_refl _) el
    refine g_Mod_make_2 F ?_
    rw [nI_leI (by omega) (by omega)]
    refine ⟨fun t => by omega, fun _ => ⟨vp_in_nI (by omega) (by decide), ?_⟩⟩
    cases hPq : P q with
    | some a =>
      rw [hPq] at eP
      have hal := hPl q a hPq
      rw [sg_frs, hPq] at hfr
      simp only at hfr
      rw [sg_mk, hPq] at hq
      simp only at hq
      rw [ck, eP]
      refine ⟨fun _ => ?_, fun z => absurd (Int32.not_lt.mp (cd_op_pos (by omega))) z⟩
      rw [e17, e3, c3, nI_1]
      refine ⟨vp_in_nI (by omega) (by decide), ?_⟩
      show cd_W X m_Mod_make kc ks 2 _ [] (cd_si h 95 (3 * OR.length + k) (nI a)) Q
      have C1 : cm_ch (cm_MK OR.length) h (cd_si h 95 (3 * OR.length + k) (nI a)) := cm_ch.si (Or.inr (Or.inl ⟨rfl, by omega⟩))
      have U1 : cm_aut (cd_si h 95 (3 * OR.length + k) (nI a)) now AC AU := U.of (fun x j hx => cd_ne (by omega) h _ _ j)
      refine ih (k + 1) _ AU (ps ++ [a]) (by omega) (R.mk C1 U1 (Nat.le_refl _)) (fun j qq hj => by rw [cd_ne (by decide)]; exact e112 j qq hj) (fun j qq h1 hj => by rw [cd_ne (by decide)]; exact e113 j qq (by omega) hj) (by omega) hPl (by rw [List.length_append, List.length_singleton]; omega) (fun j p hj => ?_) (fun h' C' R' => ?_)
      · rw [cd_i_si]
        by_cases ej : j < ps.length
        · rw [List.getElem?_append_left ej] at hj
          rw [if_neg (by omega)]
          exact hp j p hj
        · have hjl := (List.getElem?_eq_some_iff.mp hj).1
          rw [List.length_append, List.length_singleton] at hjl
          have ejj : j = ps.length := by omega
          rw [ejj, List.getElem?_append_right (Nat.le_refl _), Nat.sub_self] at hj
          cases hj
          rw [if_pos ⟨rfl, by omega⟩]
          exact ⟨rfl, hal⟩
      · rw [List.append_assoc] at R'
        exact hq h' ((C1.sub (fun x j z => Or.inl z)).tr C') R'
    | none =>
      rw [hPq] at eP
      rw [sg_frs, hPq] at hfr
      simp only at hfr
      rw [sg_mk, hPq] at hq
      simp only at hq
      have cA : (nI AU.length).toNatClampNeg = AU.length := nI_clamp (by omega)
      rw [ck, eP]
      refine ⟨fun z => absurd z (by decide), fun _ => ?_⟩
      simp only [cd_ne (show ¬ (82 : Nat) = 113 by decide), cd_ne (show ¬ (82 : Nat) = 97 by decide), cd_ne (show ¬ (82 : Nat) = 100 by decide), cd_ne (show ¬ (112 : Nat) = 113 by decide), cd_ne (show ¬ (112 : Nat) = 97 by decide), cd_ne (show ¬ (112 : Nat) = 100 by decide), e23, e9, cA, e112 k q el]
      have C3 : cm_ch (cm_MK OR.length) h (cd_si (cd_si (cd_si h 113 k (nI AU.length)) 97 AU.length (nI i)) 100 AU.length (nI now)) := ((cm_ch.si (Or.inr (Or.inr (Or.inr (Or.inr (Or.inr (Or.inr rfl))))))).tr (cm_ch.si (Or.inr (Or.inr (Or.inl rfl))))).tr (cm_ch.si (Or.inr (Or.inr (Or.inr (Or.inr (Or.inr (Or.inl rfl)))))))
      have i3 : ∀ x j, ¬ x = 113 → ¬ (x = 97 ∧ j = AU.length) → ¬ (x = 100 ∧ j = AU.length) → cd_i (cd_si (cd_si (cd_si h 113 k (nI AU.length)) 97 AU.length (nI i)) 100 AU.length (nI now)) x j = cd_i h x j := fun x j h1 h2 h3 => by rw [cd_i_si, if_neg h3, cd_i_si, if_neg h2, cd_i_si, if_neg (fun z => h1 z.1)]
      have j3 : ∀ j, ¬ j = k → cd_i (cd_si (cd_si (cd_si h 113 k (nI AU.length)) 97 AU.length (nI i)) 100 AU.length (nI now)) 113 j = cd_i h 113 j := fun j hj => by rw [cd_i_si, if_neg (by omega), cd_i_si, if_neg (by omega), cd_i_si, if_neg (fun z => hj z.2)]
      have y113 : cd_i (cd_si (cd_si (cd_si h 113 k (nI AU.length)) 97 AU.length (nI i)) 100 AU.length (nI now)) 113 k = nI AU.length := by rw [cd_i_si, if_neg (by omega), cd_i_si, if_neg (by omega), cd_i_si, if_pos ⟨rfl, rfl⟩]
      have y97 : cd_i (cd_si (cd_si (cd_si h 113 k (nI AU.length)) 97 AU.length (nI i)) 100 AU.length (nI now)) 97 AU.length = nI i := by rw [cd_i_si, if_neg (by omega), cd_i_si, if_pos ⟨rfl, rfl⟩]
      have y100 : cd_i (cd_si (cd_si (cd_si h 113 k (nI AU.length)) 97 AU.length (nI i)) 100 AU.length (nI now)) 100 AU.length = nI now := by rw [cd_i_si, if_pos ⟨rfl, rfl⟩]
      generalize cd_si (cd_si (cd_si h 113 k (nI AU.length)) 97 AU.length (nI i)) 100 AU.length (nI now) = h3 at *
      have Z3 : cm_txt h3 T n := Z.of (fun x j hx => i3 x j (by omega) (by omega) (by omega))
      refine ⟨vp_in_nI (by omega) (by decide), vp_in_nI (by omega) (by decide), sp_Mod_lengthAt (C3.ok F) Z3 hs ⟨_, rfl, C3.ok F, vp_in_nI (by omega) (by decide), ?_⟩⟩
      have hsl := sg_sl_eq hs
      have C4 : cm_ch (cm_MK OR.length) h (cd_si h3 99 AU.length (nI (c - q - 2))) := C3.tr (cm_ch.si (Or.inr (Or.inr (Or.inr (Or.inr (Or.inl rfl))))))
      have i4 : ∀ x j, ¬ x = 113 → ¬ (x = 97 ∧ j = AU.length) → ¬ (x = 100 ∧ j = AU.length) → ¬ (x = 99 ∧ j = AU.length) → cd_i (cd_si h3 99 AU.length (nI (c - q - 2))) x j = cd_i h x j := fun x j h1 h2 h3 h4 => by rw [cd_i_si, if_neg h4]; exact i3 x j h1 h2 h3
      show cd_W X m_Mod_make kc ks 71 [some (.ref 82), some (.int (nI i)), some (.int (nI l.length)), some (.int (nI k)), some (.int (nI 0))] [] _ Q
      refine sp_Mod_make_71 (OR := OR) (len := c - q - 2) (by omega) hs (by omega : AU.length < 24) rfl (by omega) hm (c - q - 2) 0 _ (by omega) (C4.ok F) (Z.of (fun x j hx => i4 x j (by omega) (by omega) (by omega) (by omega))) (by rw [i4 82 23 (by decide) (by omega) (by omega) (by omega)]; exact e23) (by rw [i4 82 17 (by decide) (by omega) (by omega) (by omega)]; exact e17) (by rw [cd_i_si, if_pos ⟨rfl, rfl⟩]) (by rw [i4 112 k (by decide) (by omega) (by omega) (by omega)]; exact e112 k q el) (by rw [cd_ne (by decide)]; exact y113) (fun u hu => by omega) (fun h5 C5 ch5 n23 n95 => ?_)
      have C45 : cm_ch (cm_MK OR.length) h h5 := C4.tr (C5.sub (fun x u z => by
        rcases z with z | z | z
        · exact Or.inr (Or.inr (Or.inr (Or.inl z.1)))
        · exact Or.inl z
        · exact Or.inr (Or.inl ⟨z.1, by omega⟩)))
      have i5 : ∀ x j, ¬ (x = 98 ∧ 12 * AU.length ≤ j) → ¬ (x = 82 ∧ j = 23) → ¬ (x = 95 ∧ j = 3 * OR.length + k) → cd_i h5 x j = cd_i (cd_si h3 99 AU.length (nI (c - q - 2))) x j := fun x j h1 h2 h3 => C5.2.2.2 x j (fun z => by
        rcases z with z | z | z
        · exact h1 z
        · exact h2 z
        · exact h3 z)
      have U5 : cm_aut h5 now AC (AU ++ [sg_new T n i now q]) := by
        refine U.push (v := sg_new T n i now q) (by omega) hi (fun x j hx => ?_) n23 ?_ ⟨by show sg_sl T n q ≤ 12; exact hname, ?_, fun u hu => ?_⟩ ?_ ?_ ?_ rfl rfl ⟨Nat.le_refl _, Nat.le_refl _⟩
        · rw [i5 x j (by omega) (by omega) (by omega), i4 x j (by omega) (by omega) (by omega) (by omega)]
        · rw [i5 97 _ (by omega) (by omega) (by omega), cd_ne (by decide)]
          exact y97
        · rw [i5 99 _ (by omega) (by omega) (by omega), cd_i_si, if_pos ⟨rfl, rfl⟩]
          show nI (c - q - 2) = nI (sg_sl T n q)
          rw [hsl]
        · have hu : u < sg_sl T n q := hu
          have hp2 := tx_s_some hs
          have := Z.2.2.2 (q + 1 + u) (by omega)
          exact ⟨ch5 u (by omega), by show T (q + 1 + u) < 65536; omega⟩
        · rw [i5 100 _ (by omega) (by omega) (by omega), cd_ne (by decide)]
          exact y100
        · rw [i5 101 _ (by omega) (by omega) (by omega), i4 101 _ (by omega) (by omega) (by omega) (by omega)]
        · rw [i5 103 _ (by omega) (by omega) (by omega), i4 103 _ (by omega) (by omega) (by omega) (by omega)]
      refine ih (k + 1) h5 (AU ++ [sg_new T n i now q]) (ps ++ [AU.length]) (by omega) (R.mk C45 U5 (by rw [List.length_append]; omega)) (fun j qq hj => ?_) (fun j qq h1 hj => ?_) (by rw [List.length_append, List.length_singleton]; omega) (fun qq a ha => by rw [List.length_append, List.length_singleton]; have := hPl qq a ha; omega) (by rw [List.length_append, List.length_singleton]; omega) (fun j p hj => ?_) (fun h' C' R' => ?_)
      · rw [i5 112 j (by omega) (by omega) (by omega), i4 112 j (by omega) (by omega) (by omega) (by omega)]
        exact e112 j qq hj
      · rw [i5 113 j (by omega) (by omega) (by omega), cd_ne (by decide), j3 j (by omega)]
        exact e113 j qq (by omega) hj
      · rw [List.length_append, List.length_singleton]
        by_cases ej : j < ps.length
        · rw [List.getElem?_append_left ej] at hj
          rw [i5 95 _ (by omega) (by omega) (by omega), i4 95 _ (by omega) (by omega) (by omega) (by omega)]
          exact ⟨(hp j p hj).1, by have := (hp j p hj).2; omega⟩
        · have hjl := (List.getElem?_eq_some_iff.mp hj).1
          rw [List.length_append, List.length_singleton] at hjl
          have ejj : j = ps.length := by omega
          rw [ejj, List.getElem?_append_right (Nat.le_refl _), Nat.sub_self] at hj
          cases hj
          rw [ejj, hps]
          exact ⟨n95, by omega⟩
      · rw [List.append_assoc] at R'
        exact hq h' ((C45.sub (fun x j z => Or.inl z)).tr C') R'
end VMX
