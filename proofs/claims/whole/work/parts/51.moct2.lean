def sg_nmU (AU : List sg_U) (p : Nat) : Nat × (Nat → Nat) := match AU[p]? with
  | none => (0, fun _ => 0)
  | some u => (sgu_len u, sgu_N u)
def sg_nms (AU : List sg_U) (OR : List sg_O) (o : Nat) : List (Nat × (Nat → Nat)) := match OR[o]? with
  | none => []
  | some x => (sgo_parts x).map (sg_nmU AU)
def sg_octA (L : List Nat) (k : Int32) : Int32 := if k = -1 then nI L.length else match L[sg_ix k]? with
  | none => -1
  | some v => nI v
def sg_crC (AU : List sg_U) (OR : List sg_O) (i : Nat) (c : sg_C) : List Nat := sg_crt (sg_nms AU OR (sgc_ord c)) i (sgc_made c) (sgc_key c) (sgc_seal c)
def sg_oct (AU : List sg_U) (OR : List sg_O) (CE : List sg_C) (x k : Int32) : Int32 := match CE[sg_ix x]? with
  | none => -1
  | some c => sg_octA (sg_crC AU OR (sg_ix x) c) k
def sg_ls : List sg_C → Nat → Nat → Nat
  | [], _, d => d
  | c :: l, i, d => sg_ls l (i + 1) (match sgc_why c with
    | none => d
    | some w => cd_dg (cd_dg d i) w)
theorem sg_ls_lt : ∀ (l : List sg_C) (i d : Nat), d < 2147483647 → sg_ls l i d < 2147483647
  | [], _, _, hd => hd
  | c :: l, i, d, hd => by
    rw [sg_ls]
    apply sg_ls_lt
    cases sgc_why c with
    | none => exact hd
    | some w => exact cd_dg_lt _ _
section VMQ
variable {X : cd_E} {kc ks : Nat} {h : cd_H} {Q : Option Value → cd_H → Prop} {now : Nat} {AC : List sg_A} {AU : List sg_U} {OR : List sg_O} {CE : List sg_C}
theorem cm_cn.mk (U : cm_aut h now AC AU) (O : cm_ord h now AC AU OR) {o : Nat} (ho : o < OR.length) : cm_cn h o (sg_nms AU OR o) := by
  have o1 := O.1
  have u1 := U.1
  have e : OR[o]? = some OR[o] := List.getElem?_eq_getElem ho
  obtain ⟨c1, c2, c3, c4, c5, c6, c7, c8⟩ := O.2.2 o _ e
  have en : sg_nms AU OR o = (sgo_parts OR[o]).map (sg_nmU AU) := by rw [sg_nms, e]
  rw [en]
  refine ⟨by omega, by rw [List.length_map]; exact c5, by rw [List.length_map]; exact c6, fun k q hq => ?_⟩
  rw [List.getElem?_map] at hq
  cases hp : (sgo_parts OR[o])[k]? with
  | none => rw [hp] at hq; cases hq
  | some p =>
    rw [hp] at hq
    cases hq
    obtain ⟨d1, d2⟩ := c7 k p hp
    have eu : AU[p]? = some AU[p] := List.getElem?_eq_getElem d2
    refine ⟨p, by omega, d1, ?_⟩
    rw [sg_nmU, eu]
    exact (U.2.2.1 p _ eu).2.2.1
theorem sp_Mod_octet_37 {i sel : Nat} {k : Int32} (hi : i < 12) (hs : sel < 2 ^ 31) : ∀ (c : Nat) (h : cd_H) (l : List Nat), c ≤ 4 → cm_ok h → cm_out h 2 l → 2 + l.length + c ≤ 100 → cd_i h 107 i = nI sel → (∀ h', cm_oc h h' → Q (some (.int (sg_octA (sg_row (l ++ sg_bs sel c)) k))) h') → cd_W X m_Mod_octet kc ks 37 [some (.ref 82), some (.int (nI i)), some (.int k), some (.int (nI c - 1))] [] h Q := by
  intro c
  induction c with
  | zero =>
    intro h l hc F O hl h7 hq
    obtain ⟨o1, o2, o3⟩ := O
    rw [sg_bs, List.append_nil] at hq
    have C : cm_oc h (cd_si (cd_si h 111 0 48) 111 1 (nI l.length)) := (cm_ch.si (Or.inr rfl)).tr (cm_ch.si (Or.inr rfl))
    have K := hq _ C
    have e42 : ∀ x : Int32, cd_i (cd_si h 111 0 x) 82 42 = nI (2 + l.length) := fun x => by rw [cd_i_si, if_neg (fun z => by omega)]; exact o2
    have e42' : cd_i (cd_si (cd_si h 111 0 48) 111 1 (nI l.length)) 82 42 = nI (2 + l.length) := by rw [cd_i_si, if_neg (fun z => by omega)]; exact e42 _
    have esub : nI (2 + l.length) - 2 = nI l.length := by
      rw [show (2 : Int32) = nI 2 by decide, pk_sub (by omega)]
      congr 1
      omega
    have hrow : (sg_row l).length = 2 + l.length := by rw [sg_row, List.length_cons, List.length_cons]; omega
    have rowv : ∀ q v, (sg_row l)[q]? = some v → cd_i (cd_si (cd_si h 111 0 48) 111 1 (nI l.length)) 111 q = nI v := by
      intro q v hel
      rw [cd_i_si, cd_i_si]
      match q, hel with
      | 0, hel =>
        cases hel
        rw [if_neg (fun z => by cases z.2), if_pos ⟨rfl, rfl⟩]
        rfl
      | 1, hel =>
        cases hel
        rw [if_pos ⟨rfl, rfl⟩]
      | q + 2, hel =>
        rw [if_neg (fun z => by omega), if_neg (fun z => by omega)]
        have hel2 : l[q]? = some v := hel
        rw [show q + 2 = 2 + q by omega]
        exact o3 q _ hel2
    refine g_Mod_octet_37 F ⟨fun _ => ⟨vp_in_nI (n := 0) (by decide) (by decide), vp_in_nI (n := 1) (by decide) (by decide), ?_⟩, fun t => absurd (by decide) t⟩
    rw [show ((0 : Int32)).toNatClampNeg = 0 by decide, show ((1 : Int32)).toNatClampNeg = 1 by decide, e42, esub, e42']
    refine ⟨fun t => ⟨fun t2 => ?_, fun t2 => ?_⟩, fun t => ?_⟩
    · rw [sg_octA, if_neg t, sg_ix_neg t2 (by rw [hrow]; omega)] at K
      exact K
    · obtain ⟨q, hq2, rfl⟩ := nI_of t2
      rw [sg_octA, if_neg t, sg_ix_nI hq2] at K
      rw [nI_ltI hq2 (by omega)]
      refine ⟨fun t3 => ⟨vp_in_nI (by omega) (by decide), ?_⟩, fun t3 => ?_⟩
      · rw [nI_clamp hq2]
        have hel : (sg_row l)[q]? = some ((sg_row l)[q]'(by omega)) := List.getElem?_eq_getElem (by omega)
        rw [hel] at K
        simp only at K
        rw [rowv q _ hel]
        exact K
      · rw [List.getElem?_eq_none (by omega)] at K
        exact K
    · rw [sg_octA, if_pos t, hrow] at K
      exact K
  | succ c ih =>
    intro h l hc F O hl h7 hq
    rw [nI_pred]
    refine g_Mod_octet_37 F ⟨fun t => absurd t (nI_pos (by omega)), fun _ => ⟨vp_in_nI hi (by decide), ?_⟩⟩
    rw [nI_clamp (by omega), h7, cd_byteI hs (by omega)]
    refine sp_Mod_emit F O (by omega) (fun h' C' O' => ⟨rfl, C'.ok F, ?_⟩)
    rw [← Int32.sub_eq_add_neg]
    refine ih h' _ (by omega) (C'.ok F) O' (by rw [List.length_append, List.length_singleton]; omega) (by rw [C'.i (by decide) (by decide)]; exact h7) (fun h2 C2 => ?_)
    have := hq h2 (C'.tr C2)
    rw [sg_bs] at this
    rw [List.append_assoc]
    exact this
theorem sg_nmL_len : ∀ (l : List (Nat × (Nat → Nat))), (∀ q, q ∈ l → q.1 ≤ 12) → (sg_nmL l).length ≤ 14 * l.length
  | [], _ => Nat.le_refl _
  | q :: l, hq => by
    have a := sg_nmL_len l (fun p hp => hq p (List.mem_cons_of_mem _ hp))
    have b := hq q (List.mem_cons_self ..)
    rw [sg_nmL, List.length_append, sg_nm1_len, List.length_cons]
    omega
theorem sg_bdy_len {nms : List (Nat × (Nat → Nat))} (h3 : nms.length ≤ 3) (hq : ∀ q, q ∈ nms → q.1 ≤ 12) (i made key : Nat) : (sg_bdy nms i made key).length ≤ 70 := by
  have a := sg_nmL_len nms hq
  have b := sg_fou_len i made key
  rw [sg_bdy, sg_row, List.length_cons, List.length_cons, List.length_append, sg_row, List.length_cons, List.length_cons]
  omega
theorem cm_cn.le {o : Nat} {nms : List (Nat × (Nat → Nat))} (C : cm_cn h o nms) : ∀ q, q ∈ nms → q.1 ≤ 12 := fun q hq => by
  obtain ⟨k, hk⟩ := List.getElem?_of_mem hq
  obtain ⟨p, p1, p2, p3⟩ := C.2.2.2 k q hk
  exact p3.1
theorem sp_Mod_octet (F : cm_ok h) (hnow : now ≤ 1000) (U : cm_aut h now AC AU) (O : cm_ord h now AC AU OR) (C : cm_cer h now OR CE) {x k : Int32} (hq : ∀ h', cm_oc h h' → Q (some (.int (sg_oct AU OR CE x k))) h') : cd_W X m_Mod_octet kc ks 0 [some (.ref 82), some (.int x), some (.int k), none] [] h Q := by
  have c1 := C.1
  refine g_Mod_octet F ⟨fun hx => ?_, fun hx => ?_⟩
  · have := hq h (cm_ch.rf _ _)
    rw [sg_oct, sg_ix_neg hx (by omega)] at this
    exact this
  · obtain ⟨j, hj, rfl⟩ := nI_of hx
    rw [sg_oct, sg_ix_nI hj] at hq
    rw [C.2.1, nI_ltI hj (by omega)]
    refine ⟨fun hlt => ?_, fun hge => ?_⟩
    · have e : CE[j]? = some CE[j] := List.getElem?_eq_getElem hlt
      obtain ⟨b1, b2, b3, b4, b5, b6, b7, b8, b9, b10⟩ := C.2.2 j _ e
      rw [e] at hq
      simp only at hq
      have CN := cm_cn.mk U O b2
      have hbl := sg_bdy_len CN.2.1 CN.le j (sgc_made CE[j]) (sgc_key CE[j])
      refine sp_Mod_body (m := 2) F (by decide) (by omega) CN b5 (by omega) b3 (by omega) b1 (fun h1 C1 O1 => ⟨rfl, C1.ok F, ?_⟩)
      show cd_W X m_Mod_emit 0 0 0 [some (.ref 82), some (.int (nI 3))] [] _ _
      refine sp_Mod_emit (C1.ok F) O1 (by omega) (fun h2 C2 O2 => ⟨rfl, C2.ok (C1.ok F), ?_⟩)
      have D2 := C1.tr C2
      show cd_W X m_Mod_emit 0 0 0 [some (.ref 82), some (.int (nI 5))] [] _ _
      refine sp_Mod_emit (D2.ok F) O2 (by rw [List.length_append, List.length_singleton]; omega) (fun h3 C3 O3 => ⟨rfl, C3.ok (D2.ok F), ?_⟩)
      have D3 := D2.tr C3
      show cd_W X m_Mod_emit 0 0 0 [some (.ref 82), some (.int (nI 0))] [] _ _
      refine sp_Mod_emit (D3.ok F) O3 (by simp only [List.length_append, List.length_singleton]; omega) (fun h4 C4 O4 => ⟨rfl, C4.ok (D3.ok F), ?_⟩)
      have D4 := D3.tr C4
      show cd_W X m_Mod_octet kc ks 37 [some (.ref 82), some (.int (nI j)), some (.int k), some (.int (nI 4 - 1))] [] h4 Q
      refine sp_Mod_octet_37 (by omega) b8 4 h4 _ (by decide) (D4.ok F) O4 (by simp only [List.length_append, List.length_singleton]; omega) (by rw [D4.i (by decide) (by decide)]; exact b7) (fun h5 C5 => ?_)
      have := hq h5 (D4.tr C5)
      rw [sg_crC, sg_crt, sg_slL] at this
      simp only [List.append_assoc, List.cons_append, List.nil_append] at this ⊢
      exact this
    · have := hq h (cm_ch.rf _ _)
      rw [List.getElem?_eq_none (by omega)] at this
      exact this
theorem sp_Mod_listing_9 : ∀ (r j d : Nat) (h : cd_H), r + j = CE.length → cm_ok h → cm_kys h → cm_cer h now OR CE → cd_l h 82 7 = lN d → d < 2147483647 → (∀ h', cm_dd h h' → Q (some (.int (nI (sg_sig 4 (sg_ls (CE.drop j) j d))))) h') → cd_W X m_Mod_listing kc ks 9 [some (.ref 82), some (.int (nI j))] [] h Q := by
  intro r
  induction r with
  | zero =>
    intro j d h hj F Ky C hd hd2 hq
    have c1 := C.1
    have := hq h (cm_dd.rf h)
    rw [List.drop_of_length_le (by omega), sg_ls] at this
    refine g_Mod_listing_9 F ?_
    rw [C.2.1, nI_leI (by omega) (by omega), hd]
    exact ⟨fun _ => sp_Mod_sgn F Ky (by decide) (by omega) ⟨_, rfl, F, this⟩, fun t => by omega⟩
  | succ r ih =>
    intro j d h hj F Ky C hd hd2 hq
    have c1 := C.1
    have hlt : j < CE.length := by omega
    have e : CE[j]? = some CE[j] := List.getElem?_eq_getElem hlt
    obtain ⟨b1, b2, b3, b4, b5, b6, b7, b8, b9, b10⟩ := C.2.2 j _ e
    have eD : CE.drop j = CE[j] :: CE.drop (j + 1) := List.drop_eq_getElem_cons hlt
    rw [eD, sg_ls] at hq
    refine g_Mod_listing_9 F ?_
    rw [C.2.1, nI_leI (by omega) (by omega), nI_clamp (by omega), b9, nI_1]
    refine ⟨fun t => by omega, fun _ => ⟨vp_in_nI (by omega) (by decide), ?_⟩⟩
    cases hw : sgc_why CE[j] with
    | none =>
      rw [hw] at hq
      exact ⟨fun _ => ih (j + 1) d h (by omega) F Ky C hd hd2 hq, fun z => absurd cd_op_neg z⟩
    | some w =>
      have hwl := b10 w hw
      rw [hw] at hq b9
      refine ⟨fun z => absurd z (cd_op_pos (by omega)), fun _ => ?_⟩
      have C1 := cm_dd.sl h (lN (cd_dg d j))
      refine sp_Mod_put F hd hd2 (by omega) ⟨rfl, C1.ok F, ?_⟩
      rw [show cd_i (cd_sl h 82 7 (lN (cd_dg d j))) 108 j = nI w from b9]
      have C2 := cm_dd.sl (cd_sl h 82 7 (lN (cd_dg d j))) (lN (cd_dg (cd_dg d j) w))
      refine sp_Mod_put (C1.ok F) (cm_l7 _ _) (cd_dg_lt _ _) (by omega) ⟨rfl, (C1.tr C2).ok F, ?_⟩
      exact ih (j + 1) _ _ (by omega) ((C1.tr C2).ok F) Ky C (cm_l7 _ _) (cd_dg_lt _ _) (fun h' C' => hq h' ((C1.tr C2).tr C'))
theorem sp_Mod_listing (F : cm_ok h) (Ky : cm_kys h) (C : cm_cer h now OR CE) (hq : ∀ h', cm_dd h h' → Q (some (.int (nI (sg_sig 4 (sg_ls CE 0 7))))) h') : cd_W X m_Mod_listing kc ks 0 [some (.ref 82), none] [] h Q := by
  refine g_Mod_listing F ?_
  have C1 := cm_dd.sl h (7 : Int64)
  show cd_W X m_Mod_listing kc ks 9 [some (.ref 82), some (.int (nI 0))] [] (cd_sl h 82 7 7) Q
  exact sp_Mod_listing_9 CE.length 0 7 _ (by omega) (C1.ok F) Ky C (cm_l7 _ _) (by decide) (fun h' C' => hq h' (C1.tr C'))
end VMQ
