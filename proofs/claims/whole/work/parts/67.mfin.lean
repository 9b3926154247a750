section VMF
variable {X : cd_E} {kc ks : Nat} {h h' : cd_H} {Q : Option Value → cd_H → Prop} {T : Nat → Nat} {n life now cr gv us w : Nat} {sp : Nat → Bool} {ct : Option Nat} {NW : Nat → Option Nat} {AC AC' : List sg_A} {AU AU' : List sg_U} {OR : List sg_O} {CE : List sg_C}
theorem sp_Mod_certify_69 {l : List Nat} {c : Nat} (hc : c < 12) (hb : ∀ v, v ∈ l → v < 65536) : ∀ (r j d : Nat) (h : cd_H), r + j = l.length → cm_ok h → cm_kys h → cm_out h 0 l → cd_l h 82 7 = lN d → d < 2147483647 → (∀ h', cm_dd h h' → Q none (cd_si h' 107 c (nI (sg_sig 4 ((l.drop j).foldl cd_dg d))))) → cd_W X m_Mod_certify kc ks 69 [some (.ref 82), none, none, some (.int (nI c)), some (.int (nI j))] [] h Q := by
  intro r
  induction r with
  | zero =>
    intro j d h hj F Ky O hd hd2 hq
    have o1 := O.1
    have K := hq h (cm_dd.rf h)
    rw [List.drop_of_length_le (by omega)] at K
    refine g_Mod_certify_69 F ?_
    rw [O.2.1, nI_leI (by omega) (by omega), hd]
    refine ⟨fun _ => sp_Mod_sgn F Ky (by decide) (by omega) ⟨_, rfl, F, vp_in_nI hc (by decide), ?_⟩, fun t => by omega⟩
    rw [nI_clamp (by omega)]
    exact K
  | succ r ih =>
    intro j d h hj F Ky O hd hd2 hq
    have o1 := O.1
    have hlt : j < l.length := by omega
    have el : l[j]? = some l[j] := List.getElem?_eq_getElem hlt
    have hbv := hb _ (List.getElem_mem hlt)
    have e111 := O.2.2 j _ el
    rw [Nat.zero_add] at e111
    rw [List.drop_eq_getElem_cons hlt, List.foldl_cons] at hq
    refine g_Mod_certify_69 F ?_
    rw [O.2.1, nI_leI (by omega) (by omega), nI_clamp (by omega : c < 2 ^ 31), nI_clamp (by omega : j < 2 ^ 31), e111, nI_1]
    refine ⟨fun t => by omega, fun _ => ⟨vp_in_nI (by omega) (by decide), ?_⟩⟩
    have C1 := cm_dd.sl h (lN (cd_dg d l[j]))
    refine sp_Mod_put F hd hd2 (by omega) ⟨rfl, C1.ok F, ?_⟩
    exact ih (j + 1) _ _ (by omega) (C1.ok F) Ky O (cm_l7 _ _) (cd_dg_lt _ _) (fun h' C' => hq h' (C1.tr C'))
def cm_CF (c a x j : Nat) : Prop := (x = 82 ∧ (j = 31 ∨ j = 42)) ∨ (x = 96 ∧ j = a) ∨ ((104 ≤ x ∧ x ≤ 108) ∧ j = c) ∨ x = 111 ∨ x = 88
theorem sp_Mod_certify (R : cm_R h T n life now NW AC AU OR CE) (hcl : CE.length < 12) {a key : Nat} {o : sg_O} (ho : OR[a]? = some o) (hk : key < 10 ^ 9) (hq : ∀ h', cm_ch (cm_CF CE.length a) h h' → cm_R h' T n life now NW AC AU (OR.set a (sg_crd CE.length o)) (CE ++ [(a, key, now, sg_sea (sg_nms AU OR a) CE.length now key, none)]) → Q none h') : cd_W X m_Mod_certify kc ks 0 [some (.ref 82), some (.int (nI a)), some (.int (nI key)), none, none] [] h Q := by
  obtain ⟨F, Z, K, Ky, W, Aa, U, O, Ce⟩ := R
  have o1 := O.1
  have hal := (List.getElem?_eq_some_iff.mp ho).1
  have CN := cm_cn.mk U O hal
  have know := K.2.1
  have hbb := sg_bdy_b CN.2.1 (fun q hq => by
    obtain ⟨k, hk⟩ := List.getElem?_of_mem hq
    obtain ⟨p, p1, p2, p3⟩ := CN.2.2.2 k q hk
    exact ⟨p3.1, fun j hj => (p3.2.2 j hj).2⟩) CE.length now key
  refine g_Mod_certify F ?_
  rw [Ce.2.1, nI_clamp (by omega), nI_clamp (by omega)]
  refine ⟨vp_in_nI hcl (by decide), vp_in_nI (by omega) (by decide), ?_⟩
  have e9 : cd_i (cd_si (cd_si h 104 CE.length (nI a)) 105 CE.length (nI key)) 82 9 = nI now := by rw [cd_i_si, if_neg (by omega), cd_i_si, if_neg (by omega)]; exact K.2.2.2
  rw [e9]
  have e31 : cd_i (cd_si (cd_si (cd_si (cd_si (cd_si h 104 CE.length (nI a)) 105 CE.length (nI key)) 106 CE.length (nI now)) 108 CE.length (-1)) 96 a (nI CE.length)) 82 31 = nI CE.length := by
    rw [cd_i_si, if_neg (by omega), cd_i_si, if_neg (by omega), cd_i_si, if_neg (by omega), cd_i_si, if_neg (by omega), cd_i_si, if_neg (by omega)]
    exact Ce.2.1
  rw [e31, nI_1]
  have CX : cm_ch (cm_CF CE.length a) h (cd_si (cd_si (cd_si (cd_si (cd_si (cd_si h 104 CE.length (nI a)) 105 CE.length (nI key)) 106 CE.length (nI now)) 108 CE.length (-1)) 96 a (nI CE.length)) 82 31 (nI (CE.length + 1))) := by
    have t : ∀ x, 104 ≤ x → x ≤ 108 → cm_CF CE.length a x CE.length := fun x h1 h2 => Or.inr (Or.inr (Or.inl ⟨⟨h1, h2⟩, rfl⟩))
    exact (((((cm_ch.si (t 104 (by decide) (by decide))).tr (cm_ch.si (t 105 (by decide) (by decide)))).tr (cm_ch.si (t 106 (by decide) (by decide)))).tr (cm_ch.si (t 108 (by decide) (by decide)))).tr (cm_ch.si (Or.inr (Or.inl ⟨rfl, rfl⟩)))).tr (cm_ch.si (Or.inl ⟨rfl, Or.inl rfl⟩))
  have x104 : cd_i (cd_si (cd_si (cd_si (cd_si (cd_si (cd_si h 104 CE.length (nI a)) 105 CE.length (nI key)) 106 CE.length (nI now)) 108 CE.length (-1)) 96 a (nI CE.length)) 82 31 (nI (CE.length + 1))) 104 CE.length = nI a := by
    rw [cd_i_si, if_neg (by omega), cd_i_si, if_neg (by omega), cd_i_si, if_neg (by omega), cd_i_si, if_neg (by omega), cd_i_si, if_neg (by omega), cd_i_si, if_pos ⟨rfl, rfl⟩]
  have x105 : cd_i (cd_si (cd_si (cd_si (cd_si (cd_si (cd_si h 104 CE.length (nI a)) 105 CE.length (nI key)) 106 CE.length (nI now)) 108 CE.length (-1)) 96 a (nI CE.length)) 82 31 (nI (CE.length + 1))) 105 CE.length = nI key := by
    rw [cd_i_si, if_neg (by omega), cd_i_si, if_neg (by omega), cd_i_si, if_neg (by omega), cd_i_si, if_neg (by omega), cd_i_si, if_pos ⟨rfl, rfl⟩]
  have x106 : cd_i (cd_si (cd_si (cd_si (cd_si (cd_si (cd_si h 104 CE.length (nI a)) 105 CE.length (nI key)) 106 CE.length (nI now)) 108 CE.length (-1)) 96 a (nI CE.length)) 82 31 (nI (CE.length + 1))) 106 CE.length = nI now := by
    rw [cd_i_si, if_neg (by omega), cd_i_si, if_neg (by omega), cd_i_si, if_neg (by omega), cd_i_si, if_pos ⟨rfl, rfl⟩]
  have x108 : cd_i (cd_si (cd_si (cd_si (cd_si (cd_si (cd_si h 104 CE.length (nI a)) 105 CE.length (nI key)) 106 CE.length (nI now)) 108 CE.length (-1)) 96 a (nI CE.length)) 82 31 (nI (CE.length + 1))) 108 CE.length = -1 := by
    rw [cd_i_si, if_neg (by omega), cd_i_si, if_neg (by omega), cd_i_si, if_pos ⟨rfl, rfl⟩]
  have x96 : cd_i (cd_si (cd_si (cd_si (cd_si (cd_si (cd_si h 104 CE.length (nI a)) 105 CE.length (nI key)) 106 CE.length (nI now)) 108 CE.length (-1)) 96 a (nI CE.length)) 82 31 (nI (CE.length + 1))) 96 a = nI CE.length := by
    rw [cd_i_si, if_neg (by omega), cd_i_si, if_pos ⟨rfl, rfl⟩]
  have x31 : cd_i (cd_si (cd_si (cd_si (cd_si (cd_si (cd_si h 104 CE.length (nI a)) 105 CE.length (nI key)) 106 CE.length (nI now)) 108 CE.length (-1)) 96 a (nI CE.length)) 82 31 (nI (CE.length + 1))) 82 31 = nI (CE.length + 1) := by
    rw [cd_i_si, if_pos ⟨rfl, rfl⟩]
  generalize hg : cd_si (cd_si (cd_si (cd_si (cd_si (cd_si h 104 CE.length (nI a)) 105 CE.length (nI key)) 106 CE.length (nI now)) 108 CE.length (-1)) 96 a (nI CE.length)) 82 31 (nI (CE.length + 1)) = hX at *
  have nX : ∀ x j, ¬ cm_CF CE.length a x j → cd_i hX x j = cd_i h x j := CX.2.2.2
  have CNX : cm_cn hX a (sg_nms AU OR a) := CN.of (fun x j h1 h2 h3 => nX x j (fun z => by
    rcases z with z | z | z | z | z <;> omega))
  show cd_W X m_Mod_body 0 0 0 [some (.ref 82), some (.int (nI CE.length)), some (.int (nI 0)), none, none, none, none, none] [] hX _
  refine sp_Mod_body (m := 0) (CX.ok F) (by decide) hcl CNX x106 know x105 (by omega) x104 (fun hB CB OB => ⟨rfl, CB.ok (CX.ok F), ?_⟩)
  have C1 := cm_dd.sl hB (7 : Int64)
  have KyB : cm_kys hB := (Ky.of (fun x j hx => nX x j (fun z => by rcases z with z | z | z | z | z <;> omega))).of (fun x j hx => CB.i (by omega) (by omega))
  show cd_W X m_Mod_certify kc ks 69 [some (.ref 82), none, none, some (.int (nI CE.length)), some (.int (nI 0))] [] (cd_sl hB 82 7 7) Q
  refine sp_Mod_certify_69 hcl hbb (sg_bdy (sg_nms AU OR a) CE.length now key).length 0 7 _ (by omega) (C1.ok (CB.ok (CX.ok F))) KyB OB (cm_l7 _ _) (by decide) (fun hD CD => ?_)
  rw [List.drop_zero]
  show Q none (cd_si hD 107 CE.length (nI (sg_sea (sg_nms AU OR a) CE.length now key)))
  have CDD := C1.tr CD
  have CF : cm_ch (cm_CF CE.length a) h (cd_si hD 107 CE.length (nI (sg_sea (sg_nms AU OR a) CE.length now key))) := by
    refine ((CX.tr (CB.sub (fun x j z => ?_))).tr (CDD.ch.sub (fun x j z => Or.inr (Or.inr (Or.inr (Or.inr z)))))).tr (cm_ch.si (Or.inr (Or.inr (Or.inl ⟨⟨by decide, by decide⟩, rfl⟩))))
    rcases z with z | z
    · exact Or.inl ⟨z.1, Or.inr z.2⟩
    · exact Or.inr (Or.inr (Or.inr (Or.inl z)))
  have eF : ∀ x j, 83 ≤ x → x ≤ 110 → ¬ x = 88 → ¬ (x = 107 ∧ j = CE.length) → cd_i (cd_si hD 107 CE.length (nI (sg_sea (sg_nms AU OR a) CE.length now key))) x j = cd_i hX x j := fun x j h1 h2 h3 h4 => by
    rw [cd_i_si, if_neg h4, CDD.2.2.2.1 x j h3, CB.i h1 h2]
  have eF82 : ∀ j, ¬ j = 42 → cd_i (cd_si hD 107 CE.length (nI (sg_sea (sg_nms AU OR a) CE.length now key))) 82 j = cd_i hX 82 j := fun j hj => by
    rw [cd_i_si, if_neg (by omega), CDD.2.2.2.1 82 j (by decide), CB.2.2.2 82 j (fun z => by omega)]
  have nF : ∀ x j, ¬ cm_CF CE.length a x j → cd_i (cd_si hD 107 CE.length (nI (sg_sea (sg_nms AU OR a) CE.length now key))) x j = cd_i h x j := CF.2.2.2
  have nn : ∀ x j, ¬ x = 96 → ¬ (104 ≤ x ∧ x ≤ 108) → ¬ x = 111 → ¬ x = 88 → (x = 82 → ¬ j = 31 ∧ ¬ j = 42) → ¬ cm_CF CE.length a x j := fun x j q1 q2 q3 q4 q5 z => by
    rcases z with z | z | z | z | z
    · have := q5 z.1; omega
    · exact q1 z.1
    · exact q2 z.1
    · exact q3 z
    · exact q4 z
  have seal_lt : sg_sea (sg_nms AU OR a) CE.length now key < 2 ^ 31 := sg_sig_lt (by decide) _
  refine hq _ CF ⟨CF.ok F, Z.of (fun x j hx => nF x j (nn x j (by omega) (by omega) (by omega) (by omega) (by omega))), K.of (fun j hj => nF 82 j (nn 82 j (by decide) (by decide) (by decide) (by decide) (by omega))), Ky.of (fun x j hx => nF x j (nn x j (by omega) (by omega) (by omega) (by omega) (by omega))), W.of (fun x j hx => nF x j (nn x j (by omega) (by omega) (by omega) (by omega) (by omega))), Aa.of (fun x j hx => nF x j (nn x j (by omega) (by omega) (by omega) (by omega) (by omega))), U.of (fun x j hx => nF x j (nn x j (by omega) (by omega) (by omega) (by omega) (by omega))), ?_, ?_⟩
  · refine ⟨by rw [List.length_set]; exact o1, by rw [nF 82 17 (nn 82 17 (by decide) (by decide) (by decide) (by decide) (by decide)), List.length_set]; exact O.2.1, fun i v hv => ?_⟩
    rw [List.getElem?_set] at hv
    by_cases hij : a = i
    · subst hij
      rw [if_pos rfl, if_pos hal] at hv
      cases hv
      obtain ⟨d1, d2, d3, d4, d5, d6, d7, d8, d9⟩ := O.2.2 a o ho
      refine ⟨d1, by rw [nF 92 a (nn 92 a (by decide) (by decide) (by decide) (by decide) (by omega))]; exact d2, by rw [nF 93 a (nn 93 a (by decide) (by decide) (by decide) (by decide) (by omega))]; exact d3, d4, d5, by rw [nF 94 a (nn 94 a (by decide) (by decide) (by decide) (by decide) (by omega))]; exact d6, fun k p hp => ⟨by rw [nF 95 _ (nn 95 _ (by decide) (by decide) (by decide) (by decide) (by omega))]; exact (d7 k p hp).1, (d7 k p hp).2⟩, ?_, fun c hc => by cases hc; exact hcl⟩
      rw [eF 96 a (by decide) (by decide) (by decide) (by omega)]
      exact x96
    · rw [if_neg hij] at hv
      obtain ⟨d1, d2, d3, d4, d5, d6, d7, d8, d9⟩ := O.2.2 i v hv
      refine ⟨d1, by rw [nF 92 i (nn 92 i (by decide) (by decide) (by decide) (by decide) (by omega))]; exact d2, by rw [nF 93 i (nn 93 i (by decide) (by decide) (by decide) (by decide) (by omega))]; exact d3, d4, d5, by rw [nF 94 i (nn 94 i (by decide) (by decide) (by decide) (by decide) (by omega))]; exact d6, fun k p hp => ⟨by rw [nF 95 _ (nn 95 _ (by decide) (by decide) (by decide) (by decide) (by omega))]; exact (d7 k p hp).1, (d7 k p hp).2⟩, ?_, d9⟩
      rw [nF 96 i (fun z => by rcases z with z | z | z | z | z <;> omega)]
      exact d8
  · refine ⟨by rw [List.length_append, List.length_singleton]; omega, by rw [eF82 31 (by decide), List.length_append, List.length_singleton]; exact x31, fun i v hv => ?_⟩
    by_cases e : i < CE.length
    · rw [List.getElem?_append_left e] at hv
      obtain ⟨d1, d2, d3, d4, d5, d6, d7, d8, d9, d10⟩ := Ce.2.2 i v hv
      have ee : ∀ x, 104 ≤ x → x ≤ 108 → cd_i (cd_si hD 107 CE.length (nI (sg_sea (sg_nms AU OR a) CE.length now key))) x i = cd_i h x i := fun x h1 h2 => nF x i (fun z => by rcases z with z | z | z | z | z <;> omega)
      exact ⟨by rw [ee 104 (by decide) (by decide)]; exact d1, by rw [List.length_set]; exact d2, by rw [ee 105 (by decide) (by decide)]; exact d3, d4, by rw [ee 106 (by decide) (by decide)]; exact d5, d6, by rw [ee 107 (by decide) (by decide)]; exact d7, d8, by rw [ee 108 (by decide) (by decide)]; exact d9, d10⟩
    · have hi := (List.getElem?_eq_some_iff.mp hv).1
      rw [List.length_append, List.length_singleton] at hi
      have ei : i = CE.length := by omega
      rw [ei, List.getElem?_append_right (Nat.le_refl _), Nat.sub_self] at hv
      cases hv
      rw [ei]
      exact ⟨by rw [eF 104 _ (by decide) (by decide) (by decide) (by omega)]; exact x104, by rw [List.length_set]; exact hal, by rw [eF 105 _ (by decide) (by decide) (by decide) (by omega)]; exact x105, hk, by rw [eF 106 _ (by decide) (by decide) (by decide) (by omega)]; exact x106, Nat.le_refl _, by rw [cd_i_si, if_pos ⟨rfl, rfl⟩], seal_lt, by rw [eF 108 _ (by decide) (by decide) (by decide) (by omega)]; exact x108, fun w hw => by cases hw⟩
end VMF
