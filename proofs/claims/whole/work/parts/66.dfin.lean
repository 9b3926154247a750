theorem tx_Z_len {T : Nat → Nat} {n : Nat} : ∀ k p l, tx_Z T n k p = some l → l.length ≤ k := by
  intro k
  induction k with
  | zero => intro p l h; cases h
  | succ k ih =>
    intro p l h
    rw [tx_Z] at h
    by_cases c : p < n ∧ T p = 34
    · rw [if_pos c] at h
      cases hs : tx_s T n p with
      | none => rw [hs] at h; cases h
      | some d =>
        rw [hs] at h
        simp only at h
        by_cases e : d < n ∧ T d = 93
        · rw [if_pos e] at h
          cases h
          rw [List.length_singleton]
          omega
        · rw [if_neg e] at h
          cases hz : tx_Z T n k (d + 1) with
          | none => rw [hz] at h; cases h
          | some l' =>
            rw [hz] at h
            cases h
            have := ih _ _ hz
            rw [List.length_cons]
            omega
    · rw [if_neg c] at h
      cases h
theorem tx_z_len {T : Nat → Nat} {n : Nat} {o : Option Nat} {l : List Nat} (h : tx_z T n o = some l) : l.length ≤ 96 := by
  cases o with
  | none => cases h
  | some v =>
    rw [tx_z] at h
    by_cases c : v < n ∧ T v = 91
    · rw [if_pos c] at h
      by_cases e : v + 1 < n ∧ T (v + 1) = 93
      · rw [if_pos e] at h
        cases h
        exact Nat.zero_le _
      · rw [if_neg e] at h
        exact tx_Z_len _ _ _ h
    · rw [if_neg c] at h
      cases h
theorem cd_o.ci {A : Nat} {h h' : cd_H} (a : cd_o A h h') : cd_ci (fun x => x = A) h h' := ⟨a.1, a.2.1, a.2.2.1, a.2.2.2.1, fun x j hx => a.2.2.2.2 x j hx⟩
section VDF
variable {X : cd_E} {kc ks : Nat} {h h' : cd_H} {Q : Option Value → cd_H → Prop} {A : Nat → Prop} {T : Nat → Nat} {n life now cr gv us w : Nat} {sp : Nat → Bool} {ct : Option Nat} {NW : Nat → Option Nat} {AC : List sg_A} {AU AU' : List sg_U} {OR OR' : List sg_O} {CE : List sg_C} {accs auts ords cers : List Nat} {b1 c1 b2 c2 b3 c3 b4 c4 : Nat}
theorem cc_R.s73 (R : cc_R h T n life now NW AC AU OR CE accs auts ords cers b1 c1 b2 c2 b3 c3 b4 c4) (hbd : cd_bd h) (C : cd_ci (fun x => x = 73) h h') : cc_R h' T n life now NW AC AU OR CE accs auts ords cers b1 c1 b2 c2 b3 c3 b4 c4 := by
  have F := R.1.1
  have U := R.2.2.1
  have k73 := cc_k73 F
  refine R.oth hbd C.ch (C.ok F) (fun x _ hx => Or.inr (Or.inr (Or.inr hx))) (fun x h1 h2 => by omega) (U.ch hbd C.ch (by decide) (fun z => by have := U.2.1.2.2.2.2.1; rw [z, k73] at this; cases this) (fun x hx => ?_)) rfl
  subst hx
  rw [k73]
  exact ⟨(fun z => by cases z), (fun z => by cases z), fun m z => by cases z⟩
theorem cc_cer.mem (Ce : cc_cer h now accs AU OR CE cers b4 c4) {x : Nat} (hx : x ∈ cers) : cd_k h x = some (.inl 3) ∧ 114 ≤ x := by
  obtain ⟨k, hk2, e⟩ := List.getElem_of_mem hx
  have u3 := Ce.2.2.1
  have e2 : CE[k]? = some (CE[k]'(by omega)) := List.getElem?_eq_getElem (by omega)
  have := Ce.2.2.2.2 k x _ (by rw [List.getElem?_eq_getElem hk2, e]) e2
  exact ⟨this.1.2, this.1.1⟩
theorem cc_cer.push (Ce : cc_cer h now accs AU OR CE cers b4 c4) (hbd : cd_bd h) (hl : CE.length < 12) {b' cap' nn y oc ob : Nat} {o : sg_O} {c : sg_C} (C : cd_ch A h h') (hA : ∀ x, A x → ¬ cd_k h x = some (.inl 3) ∧ ¬ cd_k h x = some (.inl 7) ∧ ¬ cd_k h x = some (.inr (0, 80))) (L' : cc_lst h' 81 (cers ++ [nn]) b' cap') (hn : 114 ≤ nn) (hnn : cd_n h ≤ nn) (k1 : cd_k h' nn = some (.inl 3)) (ho : OR[sgc_ord c]? = some o) (hy : accs[sgo_own o]? = some y) (k2 : cd_r h' nn 0 = some y) (k3 : cd_i h' nn 1 = nI (sgc_made c)) (hm : sgc_made c ≤ now) (k4 : cd_r h' nn 2 = some oc) (hoc : 114 ≤ oc) (hob : 114 ≤ ob) (k5 : cc_oct h' oc ob (sg_crC AU OR CE.length c)) (k6 : cd_i h' nn 3 = cd_op (sgc_why c)) (hw : ∀ w, sgc_why c = some w → w ≤ 10) : cc_cer h' now accs AU OR (CE ++ [c]) (cers ++ [nn]) b' cap' := by
  have Ce0 := Ce
  obtain ⟨u1, u2, u3, u4, u5⟩ := Ce
  refine ⟨by rw [List.length_append, List.length_singleton]; omega, L', by rw [List.length_append, List.length_append, List.length_singleton, List.length_singleton]; omega, sg_push u4 (fun z => by have := hbd _ _ (Ce0.mem z).1; omega), fun i x a hx ha => ?_⟩
  by_cases e : i < cers.length
  · rw [List.getElem?_append_left e] at hx
    rw [List.getElem?_append_left (by omega)] at ha
    obtain ⟨⟨d1, d2⟩, ⟨o', z, d3, d3b, d3c⟩, d4, d5, ⟨oc', ob', d6, d6b, d6c, d6d⟩, d7, d8⟩ := u5 i x a hx ha
    have hx2 := hbd _ _ d2
    obtain ⟨p1, p2, p3⟩ := C.2.2 x hx2 (fun w => (hA x w).1 d2)
    exact ⟨⟨d1, by rw [C.2.1 x hx2]; exact d2⟩, ⟨o', z, d3, d3b, by rw [p3]; exact d3c⟩, by rw [p1]; exact d4, d5, ⟨oc', ob', by rw [p3]; exact d6, d6b, d6c, d6d.ch hbd C (fun w hw => (hA w hw).2)⟩, by rw [p1]; exact d7, d8⟩
  · have hi := (List.getElem?_eq_some_iff.mp hx).1
    rw [List.length_append, List.length_singleton] at hi
    have ei : i = cers.length := by omega
    rw [ei, List.getElem?_append_right (Nat.le_refl _), Nat.sub_self] at hx
    rw [ei, u3, List.getElem?_append_right (Nat.le_refl _), Nat.sub_self] at ha
    cases hx
    cases ha
    rw [ei, u3]
    exact ⟨⟨hn, k1⟩, ⟨o, y, ho, hy, k2⟩, k3, hm, ⟨oc, ob, k4, hoc, hob, k5⟩, k6, hw⟩
theorem cc_ord.upd (O : cc_ord h now accs auts OR ords b3 c3) {a x s : Nat} {o : sg_O} (hx : ords[a]? = some x) (ho : OR[a]? = some o) (C : cd_ci (fun y => y = x) h h') (e1 : cd_i h' x 1 = cd_i h x 1) (e3 : cd_i h' x 3 = nI s) (hs : s < 12) : cc_ord h' now accs auts (OR.set a (sg_crd s o)) ords b3 c3 := by
  obtain ⟨u1, u2, u3, u4, u5⟩ := O
  obtain ⟨⟨a1, a2⟩, -⟩ := u5 a x o hx ho
  have hk : ∀ y q, cd_k h y = some q → ¬ q = .inl 8 → ¬ y = x := fun y q hy hq z => by rw [z, a2] at hy; cases hy; exact hq rfl
  have lst : ∀ p l b cap, cc_lst h p l b cap → cc_lst h' p l b cap := fun p l b cap L => L.ci C (hk _ _ L.2.1 (fun z => by cases z))
  refine ⟨by rw [List.length_set]; exact u1, lst _ _ _ _ u2, by rw [List.length_set]; exact u3, u4, fun i y v hy hv => ?_⟩
  rw [List.getElem?_set] at hv
  by_cases hij : a = i
  · subst hij
    rw [if_pos rfl, if_pos (List.getElem?_eq_some_iff.mp ho).1] at hv
    cases hv
    cases hx.symm.trans hy
    obtain ⟨⟨d1, d2⟩, ⟨z, d3, d3b⟩, d4, d5, d6, d7, ⟨pl, pb, pcap, d8, d8b, d8c⟩, d9, d10⟩ := u5 a x o hx ho
    exact ⟨⟨d1, by rw [C.2.1]; exact d2⟩, ⟨z, d3, by rw [C.2.2.1]; exact d3b⟩, by rw [e1]; exact d4, d5, d6, d7, ⟨pl, pb, pcap, by rw [C.2.2.1]; exact d8, d8b, lst _ _ _ _ d8c⟩, e3, fun c hc => by cases hc; exact hs⟩
  · rw [if_neg hij] at hv
    have hxy : ¬ y = x := fun z => hij (by subst z; exact sg_inj u4 hx hy)
    obtain ⟨⟨d1, d2⟩, ⟨z, d3, d3b⟩, d4, d5, d6, d7, ⟨pl, pb, pcap, d8, d8b, d8c⟩, d9, d10⟩ := u5 i y v hy hv
    have ei : ∀ k, cd_i h' y k = cd_i h y k := fun k => C.2.2.2.2 y k hxy
    exact ⟨⟨d1, by rw [C.2.1]; exact d2⟩, ⟨z, d3, by rw [C.2.2.1]; exact d3b⟩, by rw [ei]; exact d4, d5, d6, d7, ⟨pl, pb, pcap, by rw [C.2.2.1]; exact d8, d8b, lst _ _ _ _ d8c⟩, by rw [ei]; exact d9, d10⟩
theorem sg_nms_or {a : Nat} (e : (OR'[a]?).map sgo_parts = (OR[a]?).map sgo_parts) : sg_nms AU OR' a = sg_nms AU OR a := by
  unfold sg_nms
  cases h1 : OR'[a]? with
  | none =>
    rw [h1] at e
    cases h2 : OR[a]? with
    | none => rfl
    | some o => rw [h2] at e; cases e
  | some v =>
    rw [h1] at e
    cases h2 : OR[a]? with
    | none => rw [h2] at e; cases e
    | some o =>
      rw [h2] at e
      have e : sgo_parts v = sgo_parts o := Option.some.inj e
      simp only
      rw [e]
theorem cc_cer.orc (Ce : cc_cer h now accs AU OR CE cers b4 c4) (e : ∀ a : Nat, (OR'[a]?).map (fun o => (sgo_own o, sgo_parts o)) = (OR[a]?).map (fun o => (sgo_own o, sgo_parts o))) : cc_cer h now accs AU OR' CE cers b4 c4 := by
  obtain ⟨u1, u2, u3, u4, u5⟩ := Ce
  refine ⟨u1, u2, u3, u4, fun i x c hx hc => ?_⟩
  obtain ⟨d1, ⟨o, z, d3, d3b, d3c⟩, d4, d5, ⟨oc, ob, d6, d6b, d6c, d6d⟩, d7⟩ := u5 i x c hx hc
  have e1 := e (sgc_ord c)
  have ep : (OR'[sgc_ord c]?).map sgo_parts = (OR[sgc_ord c]?).map sgo_parts := by
    have := congrArg (Option.map (fun q : Nat × List Nat => q.2)) e1
    rw [Option.map_map, Option.map_map] at this
    exact this
  have en : sg_crC AU OR' i c = sg_crC AU OR i c := by
    unfold sg_crC
    rw [sg_nms_or ep]
  rw [en]
  cases h2 : OR'[sgc_ord c]? with
  | none => rw [h2, d3] at e1; cases e1
  | some v =>
    rw [h2, d3] at e1
    have e1 : (sgo_own v, sgo_parts v) = (sgo_own o, sgo_parts o) := Option.some.inj e1
    have eo : sgo_own v = sgo_own o := congrArg (fun q : Nat × List Nat => q.1) e1
    exact ⟨d1, ⟨v, z, rfl, by rw [eo]; exact d3b, d3c⟩, d4, d5, ⟨oc, ob, d6, d6b, d6c, d6d⟩, d7⟩
theorem sg_set_or {a s : Nat} {o : sg_O} (ho : OR[a]? = some o) : ∀ i : Nat, ((OR.set a (sg_crd s o))[i]?).map (fun o => (sgo_own o, sgo_parts o)) = (OR[i]?).map (fun o => (sgo_own o, sgo_parts o)) := fun i => by
  rw [List.getElem?_set]
  by_cases e : a = i
  · subst e
    rw [if_pos rfl, if_pos (List.getElem?_eq_some_iff.mp ho).1, ho]
    rfl
  · rw [if_neg e]
theorem sg_nms_b (I : sg_I AC AU OR CE) {a : Nat} : ∀ m, m ∈ sg_nms AU OR a → ∀ j, j < m.1 → m.2 j ≠ 34 ∧ m.2 j ≠ 92 := fun m hm j hj => by
  unfold sg_nms at hm
  cases h2 : OR[a]? with
  | none => rw [h2] at hm; cases hm
  | some o =>
    rw [h2] at hm
    simp only at hm
    rw [List.mem_map] at hm
    obtain ⟨p, _, rfl⟩ := hm
    unfold sg_nmU at hj ⊢
    cases h3 : AU[p]? with
    | none => rw [h3] at hj; cases hj
    | some u =>
      rw [h3] at hj
      exact I.2.1 u (List.mem_of_getElem? h3) j hj
theorem sp_Desk_finishOrder (R : cc_R h T n life now NW AC AU OR CE accs auts ords cers b1 c1 b2 c2 b3 c3 b4 c4) (S : cc_sto h us ct) (N : cc_non h cr gv sp) (hcr : cr < 1000) (I : sg_I AC AU OR CE) {e0 : Nat} (hW : tx_W T n 0 = some e0) {snd : Option Nat} (hs : ∀ i, snd = some i → i < AC.length) (hq : cc_Q Q h T n life now NW cr gv sp (sg_fin T n life now AC AU OR CE us ct snd)) : cd_W X m_Desk_finishOrder (kc + 4) (ks + 126) 0 [some (.ref 64), some (va_rf (snd.bind (fun i => accs[i]?))), none, none, none, none, none, none, none] [] h Q := by
  refine cd_W.bd (fun hbd => ?_)
  have F := R.1.1
  have Z := R.1.2.2.2.2.2.2.2.2
  have hn := R.1.2.1
  have ho : ∀ v, (some 0 : Option Nat) = some v → ∃ e, tx_W T n v = some e := fun v hv => by cases hv; exact ⟨e0, hW⟩
  have ho2 : ∀ v, sg_fl T n [99, 115, 114] (some 0) = some v → ∃ e, tx_W T n v = some e := sg_flo ho
  refine g_Desk_finishOrder F ?_
  show cd_W X m_Not_field 0 0 0 [some (.ref 71), some (.int (cd_op (some 0))), some (.ref 7), none, none, none, none] [] h _
  refine sp_Not_fld R.1 (l := [111, 114, 100, 101, 114]) (by decide) ho ⟨_, rfl, F, sp_Not_number F Z (sg_flo ho) ⟨_, rfl, F, ?_⟩⟩
  show cd_W X m_Not_field 0 0 0 [some (.ref 71), some (.int (cd_op (some 0))), some (.ref 13), none, none, none, none] [] h _
  refine sp_Not_fld R.1 (l := [99, 115, 114]) (by decide) ho ⟨_, rfl, F, ?_⟩
  refine sp_Not_fld R.1 (l := [107, 101, 121]) (by decide) ho2 ⟨_, rfl, F, sp_Not_number F Z (sg_flo ho2) ⟨_, rfl, F, ?_⟩⟩
  refine sp_Not_fld R.1 (l := [110, 97, 109, 101, 115]) (by decide) ho2 ⟨_, rfl, F, sp_Not_strings F Z (sg_flo ho2) (fun h0 C0 st => ⟨_, rfl, C0.cok F, ?_⟩)⟩
  have R0 := R.s73 hbd C0.ci
  have C0d : cd_ch cc_Dk h h0 := (cd_ch.rf cc_Dk h).old C0.ci.ch (fun x _ hx => by subst hx; exact Or.inl (by decide))
  have S0 := S.ch C0.ci.ch (by omega) (by decide)
  have N0 := N.ch C0.ci.ch (by omega) (by decide) (by decide)
  have bd0 : cd_bd h0 := fun x q hx => by rw [C0.2.1] at hx; rw [C0.1]; exact hbd x q hx
  have F0 := R0.1.1
  have Aa := R0.2.1
  have U := R0.2.2.1
  have O := R0.2.2.2.1
  have Ce := R0.2.2.2.2.1
  have a3 := Aa.2.2.1
  have o1 := O.1
  have o3 := O.2.2.1
  have same : ∀ r : Int32, sg_fin T n life now AC AU OR CE us ct snd = sg_same0 r AC AU OR CE us ct → Q (some (.int r)) h0 := fun r e => by
    have K := hq h0 C0d
    rw [e] at K
    exact K ⟨_, _, _, _, _, _, _, _, _, _, _, _, R0⟩ S0 N0
  have la : ∀ x, sg_nf T n [111, 114, 100, 101, 114] (some 0) = some x → x < 10 ^ 9 := fun x hx => sg_nf_lt ho hx
  have lk : ∀ x, sg_nf T n [107, 101, 121] (sg_fl T n [99, 115, 114] (some 0)) = some x → x < 10 ^ 9 := fun x hx => sg_nf_lt ho2 hx
  have fa : tx_num T n (sg_fl T n [111, 114, 100, 101, 114] (some 0)) = sg_nf T n [111, 114, 100, 101, 114] (some 0) := rfl
  have fk : tx_num T n (sg_fl T n [107, 101, 121] (sg_fl T n [99, 115, 114] (some 0))) = sg_nf T n [107, 101, 121] (sg_fl T n [99, 115, 114] (some 0)) := rfl
  have ll : ∀ l, tx_z T n (sg_fl T n [110, 97, 109, 101, 115] (sg_fl T n [99, 115, 114] (some 0))) = some l → l.length ≤ 96 := fun l hl => tx_z_len hl
  rw [fa, fk, cd_op_m1 (fun x hx => by have := la x hx; omega), cd_op_m1 (fun x hx => by have := lk x hx; omega)]
  unfold tx_lo
  rw [cd_op_m1 (o := (tx_z T n (sg_fl T n [110, 97, 109, 101, 115] (sg_fl T n [99, 115, 114] (some 0)))).map List.length) (fun x hx => by
    rw [Option.map_eq_some_iff] at hx
    obtain ⟨l, hl, rfl⟩ := hx
    have := ll l hl
    omega)]
  cases ha : sg_nf T n [111, 114, 100, 101, 114] (some 0) with
  | none => exact ⟨fun _ => same (-1) (by unfold sg_fin; rw [ha]), fun z => absurd rfl z⟩
  | some a =>
  have hal := la a ha
  refine ⟨fun z => (by cases z), fun _ => ?_⟩
  cases hk : sg_nf T n [107, 101, 121] (sg_fl T n [99, 115, 114] (some 0)) with
  | none => exact ⟨fun _ => same (-1) (by unfold sg_fin; rw [ha, hk]), fun z => absurd rfl z⟩
  | some key =>
  have hkl := lk key hk
  refine ⟨fun z => (by cases z), fun _ => ?_⟩
  cases hz : tx_z T n (sg_fl T n [110, 97, 109, 101, 115] (sg_fl T n [99, 115, 114] (some 0))) with
  | none => exact ⟨fun z => absurd rfl z, fun _ => same (-1) (by unfold sg_fin; rw [ha, hk, hz])⟩
  | some l =>
  have hll := ll l hz
  refine ⟨fun _ => ?_, fun z => (by cases z)⟩
  show cd_W X m_Desk_orderAt 0 0 0 [some (.ref 64), some (.int (nI a))] [] h0 _
  refine sp_Desk_orderAt F0 O ⟨_, rfl, F0, fun hnn => ?_, fun b hb => ⟨fun hnn => ?_, fun x hx => ?_⟩⟩
  · cases hsn : snd with
    | none => exact same (-4) (by unfold sg_fin; rw [ha, hk, hz, hsn])
    | some i =>
      have hi := hs i hsn
      rw [hsn] at hnn
      have hnn : accs[i]? = none := hnn
      rw [List.getElem?_eq_getElem (by omega)] at hnn
      cases hnn
  · obtain ⟨i, hsn, hb⟩ := sg_snd hb
    rw [sg_ix_nI (by omega), List.getElem?_eq_none_iff, o3] at hnn
    exact same (-4) (by unfold sg_fin; rw [ha, hk, hz, hsn]; simp only [List.getElem?_eq_none hnn])
  · obtain ⟨i, hsn, hb⟩ := sg_snd hb
    rw [sg_ix_nI (by omega)] at hx
    have hxl := (List.getElem?_eq_some_iff.mp hx).1
    have hor : OR[a]? = some (OR[a]'(by omega)) := List.getElem?_eq_getElem (by omega)
    generalize OR[a]'(by omega) = o at hor
    obtain ⟨⟨d1, d2⟩, ⟨z, d3, d3b⟩, d4, d5, d6, d7, d8, d9, d10⟩ := O.2.2.2.2 a x o hx hor
    have hzm := (Aa.mem (List.mem_of_getElem? d3)).2
    have own : some z = some b ↔ sgo_own o = i := by
      refine ⟨fun e => ?_, fun e => ?_⟩
      · cases e
        exact sg_inj Aa.2.2.2.1 d3 hb
      · rw [e, hb] at d3
        exact d3.symm
    have no : ¬ (sgo_own o = i ∧ sg_os AC life now AU o = 1 ∧ 3 ≤ key ∧ sg_amB T n (sg_nms AU OR a) l = true) → Q (some (.int (-4))) h0 := fun hne => same (-4) (by unfold sg_fin; rw [ha, hk, hz, hsn]; simp only [hor]; rw [if_neg hne])
    have osl : sg_os AC life now AU o < 2 ^ 31 := by
      unfold sg_os
      split
      · decide
      · split
        · decide
        · split <;> decide
    have k3 : cd_op (some key) < 3 ↔ key < 3 := by
      show nI key < 3 ↔ _
      rw [show (3 : Int32) = nI 3 by decide, nI_ltI (by omega) (by decide)]
    have os1 : nI (sg_os AC life now AU o) = 1 ↔ sg_os AC life now AU o = 1 := by
      rw [show (1 : Int32) = nI 1 by decide, nI_eq osl (by decide)]
    rw [d3b, own, k3]
    refine ⟨d2, fun p q e1 e2 => Or.inr (Or.inl (by cases e1; omega)), fun t1 => no (fun z => t1 z.1), fun t1 => sp_Desk_orderState F0 R0.1.2.2.2.2.2.2.1 Aa U O hx hor ⟨_, rfl, F0, ?_⟩⟩
    rw [os1]
    have CN := cc_cn.mk U O hx hor
    refine ⟨fun t2 => no (fun z => t2 z.2.1), fun t2 => ⟨fun t3 => no (fun z => by omega), fun t3 => ?_⟩⟩
    show cd_W X m_Desk_areNamesOf 0 0 0 [some (.ref 64), some (.ref x), some (.int (nI l.length)), none] [] h0 _
    refine sp_Desk_areNamesOf R0.1 (st l hz) (by omega) (tx_z_s hz) CN (sg_nms_b I) (fun t4 => ⟨_, rfl, F0, fun _ => ?_, fun z => absurd z (by decide)⟩) (fun t4 => ⟨_, rfl, F0, fun z => absurd rfl z, fun _ => no (fun z => by rw [t4] at z; cases z.2.2.2)⟩)
    have eR : sg_fin T n life now AC AU OR CE us ct snd = (sg_fr (sg_fate us ct 5) (nI CE.length), AC, sg_fa (sg_fate us ct 5) AU, if sg_fc (sg_fate us ct 5) then OR.set a (sg_crd CE.length o) else OR, if sg_fc (sg_fate us ct 5) then CE ++ [(a, key, now, sg_sea (sg_nms AU OR a) CE.length now key, none)] else CE, sg_fu (sg_fate us ct 5) us 5, sg_ft (sg_fate us ct 5) ct, sg_fx (sg_fate us ct 5)) := by
      unfold sg_fin
      rw [ha, hk, hz, hsn]
      simp only [hor]
      rw [if_pos ⟨t1, t2, by omega, t4⟩]
    rw [eR] at hq
    have hcl : CE.length < 12 := by
      have := sg_cnt_lt OR a o hor (sg_os1 t2)
      have := I.2.2
      omega
    have ce3 := Ce.2.2.1
    refine sp_AL_size Ce.2.1 ⟨_, rfl, F0, ?_⟩
    rw [ce3]
    have hfl := sg_fate_lt us ct 5
    show cd_W X m_Desk_keep 0 0 0 [some (.ref 64), some (.int (nI 5)), none] [] h0 _
    refine sp_Desk_keepF R0 S0 N0 hcr (by decide) (fun h1 C1 en bd1 R1 S1 N1 kf ef0 ef1 => ⟨_, rfl, R1.1.1, kf, ?_⟩)
    have Cd : cd_ch cc_Dk h h1 := C0d.old C1 (fun y _ hy => hy.dk U)
    generalize hf : sg_fate us ct 5 = f at *
    rw [ef0]
    cases hfc : sg_fc f with
    | false =>
      refine ⟨fun _ => sp_Fat_answer R1.1.1 kf ef0 ef1 ⟨_, rfl, R1.1.1, ?_⟩, fun z => absurd rfl z⟩
      have K := hq h1 Cd
      simp only [hfc] at K
      exact K ⟨_, _, _, _, _, _, _, _, _, _, _, _, R1⟩ S1 N1
    | true =>
      have n1 : 114 ≤ cd_n h1 := R1.1.2.1
      have O1 := R1.2.2.2.1
      have Ce1 := R1.2.2.2.2.1
      have Aa1 := R1.2.1
      obtain ⟨⟨g1, g2⟩, ⟨z', g3, g3b⟩, -⟩ := O1.2.2.2.2 a x o hx hor
      have hxn : x < cd_n h1 := bd1 _ _ g2
      have Cn : cd_ch (fun _ => False) h1 (cd_new h1 (.inl 3)) := cd_ch.new
      refine ⟨fun z => absurd z (by decide), fun _ => ⟨by omega, by rw [Cn.2.1 x hxn]; exact g2, ?_⟩⟩
      have CN1 : cc_cn (cd_new h1 (.inl 3)) x (sg_nms AU OR a) := by
        have := (cc_cn.mk R1.2.2.1 O1 hx hor).ch bd1 Cn (fun _ z => z.elim)
        have e : sg_nms (sg_fa f AU) OR a = sg_nms AU OR a := by
          unfold sg_nms
          rw [hor]
          simp only
          rw [show sg_nmU (sg_fa f AU) = sg_nmU AU from funext (fun p => sg_nmU_cg (sg_fa_nm f AU))]
        rw [e] at this
        exact this
      show cd_W X m_Desk_certify 2 82 0 [some (.ref 64), some (.ref x), some (.int (nI CE.length)), some (.int (nI key)), none, none, none, none, none] [] (cd_new h1 (.inl 3)) _
      refine sp_Desk_certify (kc := 0) (ks := 0) (R1.1.1.new (by omega)) (by rw [cd_n_new]; omega) (R1.1.2.2.2.2.1.ch Cn (by omega) (fun _ _ _ z => z)) (R1.1.2.2.2.2.2.2.1.ch Cn (by omega) (fun z => z)) (by omega) (by omega) CN1 (fun h2 C2 n2 F2 Oc2 => ⟨_, rfl, F2, z', by rw [(Cn.2.2 x hxn (fun z => z)).2.2]; exact g3b, ?_⟩)
      rw [cd_n_new] at n2 Oc2
      have k64 : cd_i (cd_new h1 (.inl 3)) 64 12 = nI now := by rw [(Cn.2.2 64 (by omega) (fun z => z)).1]; exact R1.1.2.2.2.2.2.2.1.2.2.2
      rw [k64, cd_n_new]
      have C12 : cd_ch (fun _ => False) h1 h2 := Cn.old C2 (fun _ _ z => z)
      have kn2 : cd_k h2 (cd_n h1) = some (.inl 3) := by rw [C2.2.1 _ (by rw [cd_n_new]; omega), cd_k_new, if_pos rfl]
      refine g_Cer_init ⟨kn2, by omega, rfl, ?_⟩
      have C13 : cd_ch (fun _ => False) h1 (cd_sr (cd_si (cd_sr (cd_si h2 (cd_n h1) 3 (-1)) (cd_n h1) 0 (some z')) (cd_n h1) 1 (nI now)) (cd_n h1) 2 (some (cd_n h1 + 1))) := by
        refine C12.old (A := fun q => q = cd_n h1) ?_ (fun q hq z => by omega)
        exact (((cd_ch.si (A := fun q => q = cd_n h1) rfl).tr (cd_ch.sr rfl)).tr (cd_ch.si rfl)).tr (cd_ch.sr rfl)
      have q1 : cd_k (cd_sr (cd_si (cd_sr (cd_si h2 (cd_n h1) 3 (-1)) (cd_n h1) 0 (some z')) (cd_n h1) 1 (nI now)) (cd_n h1) 2 (some (cd_n h1 + 1))) (cd_n h1) = some (.inl 3) := kn2
      have q2 : cd_r (cd_sr (cd_si (cd_sr (cd_si h2 (cd_n h1) 3 (-1)) (cd_n h1) 0 (some z')) (cd_n h1) 1 (nI now)) (cd_n h1) 2 (some (cd_n h1 + 1))) (cd_n h1) 0 = some z' := by
        rw [cd_r_sr, if_neg (fun z => by cases z.2)]
        show cd_r (cd_sr (cd_si h2 (cd_n h1) 3 (-1)) (cd_n h1) 0 (some z')) (cd_n h1) 0 = _
        rw [cd_r_sr, if_pos ⟨rfl, rfl⟩]
      have q3 : cd_r (cd_sr (cd_si (cd_sr (cd_si h2 (cd_n h1) 3 (-1)) (cd_n h1) 0 (some z')) (cd_n h1) 1 (nI now)) (cd_n h1) 2 (some (cd_n h1 + 1))) (cd_n h1) 2 = some (cd_n h1 + 1) := by
        rw [cd_r_sr, if_pos ⟨rfl, rfl⟩]
      have q4 : cd_i (cd_sr (cd_si (cd_sr (cd_si h2 (cd_n h1) 3 (-1)) (cd_n h1) 0 (some z')) (cd_n h1) 1 (nI now)) (cd_n h1) 2 (some (cd_n h1 + 1))) (cd_n h1) 1 = nI now := by
        show cd_i (cd_si (cd_sr (cd_si h2 (cd_n h1) 3 (-1)) (cd_n h1) 0 (some z')) (cd_n h1) 1 (nI now)) (cd_n h1) 1 = _
        rw [cd_i_si, if_pos ⟨rfl, rfl⟩]
      have q5 : cd_i (cd_sr (cd_si (cd_sr (cd_si h2 (cd_n h1) 3 (-1)) (cd_n h1) 0 (some z')) (cd_n h1) 1 (nI now)) (cd_n h1) 2 (some (cd_n h1 + 1))) (cd_n h1) 3 = -1 := by
        show cd_i (cd_si (cd_sr (cd_si h2 (cd_n h1) 3 (-1)) (cd_n h1) 0 (some z')) (cd_n h1) 1 (nI now)) (cd_n h1) 3 = _
        rw [cd_i_si, if_neg (fun z => by cases z.2)]
        show cd_i (cd_si h2 (cd_n h1) 3 (-1)) (cd_n h1) 3 = _
        rw [cd_i_si, if_pos ⟨rfl, rfl⟩]
      have n3 : cd_n (cd_sr (cd_si (cd_sr (cd_si h2 (cd_n h1) 3 (-1)) (cd_n h1) 0 (some z')) (cd_n h1) 1 (nI now)) (cd_n h1) 2 (some (cd_n h1 + 1))) = cd_n h1 + 1 + 2 := n2
      have Oc3 : cc_oct (cd_sr (cd_si (cd_sr (cd_si h2 (cd_n h1) 3 (-1)) (cd_n h1) 0 (some z')) (cd_n h1) 1 (nI now)) (cd_n h1) 2 (some (cd_n h1 + 1))) (cd_n h1 + 1) (cd_n h1 + 1 + 1) (sg_crt (sg_nms AU OR a) CE.length now key (sg_sea (sg_nms AU OR a) CE.length now key)) := by
        obtain ⟨v0, v1, v2, v3, v4, v5, v6, v7⟩ := Oc2
        refine ⟨v0, v1, ?_, v3, v4, v5, ?_, fun j v hj => ?_⟩
        · rw [cd_r_sr, if_neg (fun z => by omega)]
          show cd_r (cd_sr (cd_si h2 (cd_n h1) 3 (-1)) (cd_n h1) 0 (some z')) (cd_n h1 + 1) 0 = _
          rw [cd_r_sr, if_neg (fun z => by omega)]
          exact v2
        · show cd_i (cd_si (cd_sr (cd_si h2 (cd_n h1) 3 (-1)) (cd_n h1) 0 (some z')) (cd_n h1) 1 (nI now)) (cd_n h1 + 1) 1 = _
          rw [cd_i_si, if_neg (fun z => by omega)]
          show cd_i (cd_si h2 (cd_n h1) 3 (-1)) (cd_n h1 + 1) 1 = _
          rw [cd_i_si, if_neg (fun z => by omega)]
          exact v6
        · show cd_i (cd_si (cd_sr (cd_si h2 (cd_n h1) 3 (-1)) (cd_n h1) 0 (some z')) (cd_n h1) 1 (nI now)) (cd_n h1 + 1 + 1) j = _
          rw [cd_i_si, if_neg (fun z => by omega)]
          show cd_i (cd_si h2 (cd_n h1) 3 (-1)) (cd_n h1 + 1 + 1) j = _
          rw [cd_i_si, if_neg (fun z => by omega)]
          exact v7 j v hj
      have F3 : cc_ok (cd_sr (cd_si (cd_sr (cd_si h2 (cd_n h1) 3 (-1)) (cd_n h1) 0 (some z')) (cd_n h1) 1 (nI now)) (cd_n h1) 2 (some (cd_n h1 + 1))) := R1.1.1.ch C13 (fun _ _ z => z) (by omega)
      generalize hg : cd_sr (cd_si (cd_sr (cd_si h2 (cd_n h1) 3 (-1)) (cd_n h1) 0 (some z')) (cd_n h1) 1 (nI now)) (cd_n h1) 2 (some (cd_n h1 + 1)) = h3 at *
      have L3 : cc_lst h3 81 cers b4 c4 := Ce1.2.1.ch C13 (bd1 _ _ Ce1.2.1.2.1) (bd1 _ _ Ce1.2.1.2.2.2.2.1) (fun z => z) (fun z => z)
      refine ⟨F3, cd_W.bd (fun bd3 => sp_AL_add (kc := 0) (ks := 0) L3 q1 cs_3 (by omega) (fun y hy => ⟨3, by rw [C13.2.1 y (bd1 _ _ (Ce1.mem hy).1)]; exact (Ce1.mem hy).1, cs_3⟩) (fun h4 b' cap' C4 L4 hb4 hn4 => ?_))⟩
      have C14 : cd_ch (fun q => q = 81 ∨ (q = b4 ∧ 64 ≤ b4)) h1 h4 := ((cd_ch.rf (fun q => q = 81 ∨ (q = b4 ∧ 64 ≤ b4)) h1).old C13 (fun x _ z => z.elim)).old C4 (fun x _ z => z)
      obtain ⟨B4, A4, U4, O4, -, Sp4⟩ := cc_R.ad R1 bd1 (a := 81) (Or.inr (Or.inr (Or.inr rfl))) Ce1.2.1 C14 ⟨b', L4.2.2.2.1, by rcases hb4 with z | z; exact Or.inl z; exact Or.inr (by omega)⟩
      have nb : ∀ q, cd_n h1 ≤ q → ¬ (q = 81 ∨ (q = b4 ∧ 64 ≤ b4)) := fun q hq z => by
        have := bd1 _ _ Ce1.2.1.2.2.2.2.1
        omega
      have kA : ∀ q, (q = 81 ∨ (q = b4 ∧ 64 ≤ b4)) → cd_k h1 q = some (.inl 12) ∨ ∃ c, cd_k h1 q = some (.inr (5, c)) := fun q hq => by
        rcases hq with rfl | ⟨rfl, hq⟩
        · exact Or.inl Ce1.2.1.2.1
        · exact Or.inr ⟨_, Ce1.2.1.2.2.2.2.1⟩
      obtain ⟨p1, p2, p3⟩ := C4.2.2 (cd_n h1) (by omega) (nb _ (Nat.le_refl _))
      have Oc4 : cc_oct h4 (cd_n h1 + 1) (cd_n h1 + 1 + 1) (sg_crt (sg_nms AU OR a) CE.length now key (sg_sea (sg_nms AU OR a) CE.length now key)) := by
        refine Oc3.ch bd3 C4 (fun q hq => ?_)
        rcases hq with rfl | ⟨rfl, hq⟩
        · rw [L3.2.1]
          exact ⟨(fun z => by cases z), fun z => by cases z⟩
        · rw [L3.2.2.2.2.1]
          exact ⟨(fun z => by cases z), fun z => by cases z⟩
      have enm : sg_nms (sg_fa f AU) OR a = sg_nms AU OR a := by
        unfold sg_nms
        rw [hor]
        simp only
        rw [show sg_nmU (sg_fa f AU) = sg_nmU AU from funext (fun p => sg_nmU_cg (sg_fa_nm f AU))]
      have Ce4 : cc_cer h4 now accs (sg_fa f AU) OR (CE ++ [(a, key, now, sg_sea (sg_nms AU OR a) CE.length now key, none)]) (cers ++ [cd_n h1]) b' cap' := by
        refine Ce1.push (ob := cd_n h1 + 1 + 1) bd1 hcl C14 (fun q hq => ?_) L4 n1 (Nat.le_refl _) (by rw [C4.2.1 _ (by omega)]; exact q1) hor g3 (by rw [p3]; exact q2) (by rw [p1]; exact q4) (Nat.le_refl _) (by rw [p3]; exact q3) (by omega) (by omega) ?_ (by rw [p1]; exact q5) (fun w hw => by cases hw)
        · rcases kA q hq with e | ⟨c, e⟩ <;> rw [e]
          · exact ⟨(fun z => by cases z), (fun z => by cases z), fun z => by cases z⟩
          · exact ⟨(fun z => by cases z), (fun z => by cases z), fun z => by cases z⟩
        · show cc_oct h4 _ _ (sg_crt (sg_nms (sg_fa f AU) OR a) CE.length now key _)
          rw [enm]
          exact Oc4
      have R4 : cc_R h4 T n life now NW AC (sg_fa f AU) OR (CE ++ [(a, key, now, sg_sea (sg_nms AU OR a) CE.length now key, none)]) accs auts ords (cers ++ [cd_n h1]) b1 c1 b2 c2 b3 c3 b' cap' := ⟨B4, A4 (by decide), U4 (by decide), O4 (by decide), Ce4, Sp4⟩
      have lo : ∀ q, q < 81 → ¬ (q = 81 ∨ (q = b4 ∧ 64 ≤ b4)) := fun q hq z => by
        rcases z with z | z
        · omega
        · have := R1.2.2.2.2.2.2 81 b4 (Or.inr (Or.inr (Or.inr (Or.inl rfl)))) Ce1.2.1.2.2.2.1 z.2
          omega
      have kx4 : cd_k h4 x = some (.inl 8) := (R4.2.2.2.1.2.2.2.2 a x o hx hor).1.2
      have k4 : cd_k h4 f = some (.inl 10) := by rw [C14.2.1 f (by omega)]; exact kf
      have i4 : ∀ j, cd_i h4 f j = cd_i h1 f j := (C14.2.2 f (by omega) (lo f (by omega))).1
      refine ⟨_, rfl, B4.1, kx4, by omega, k4, ?_⟩
      have C5 : cd_ci (fun q => q = x) h4 (cd_si h4 x 3 (nI CE.length)) := cd_ci.si rfl
      have i5 : ∀ j, cd_i (cd_si h4 x 3 (nI CE.length)) f j = cd_i h1 f j := fun j => by rw [cd_i_si, if_neg (fun z => by omega)]; exact i4 j
      refine cd_W.bd (fun bd5 => sp_Fat_answer (C5.ok B4.1) k4 (by rw [← ef0]; exact i5 0) (by rw [← ef1]; exact i5 1) ⟨_, rfl, C5.ok B4.1, ?_⟩)
      have bd4 : cd_bd h4 := bd5
      obtain ⟨B5, A5, U5, -, Ce5, Sp5⟩ := cc_R.k R4 bd4 (c := 8) C5 (Or.inr (Or.inr (Or.inr rfl))) (fun q hq => by subst hq; exact ⟨g1, kx4⟩)
      have O5 := R4.2.2.2.1.upd hx hor C5 (by rw [cd_i_si, if_neg (by omega)]) (by rw [cd_i_si, if_pos ⟨rfl, rfl⟩]) hcl
      have Cd5 : cd_ch cc_Dk h (cd_si h4 x 3 (nI CE.length)) := (Cd.old C14 (fun q hq z => by
        rcases z with rfl | ⟨rfl, z⟩
        · exact Or.inl (by decide)
        · exact Or.inr (R1.2.2.2.2.2.2 81 _ (Or.inr (Or.inr (Or.inr (Or.inl rfl)))) Ce1.2.1.2.2.2.1 z))).tr (cd_ch.si (Or.inr g1))
      have K := hq _ Cd5
      simp only [hfc] at K
      exact K ⟨_, _, _, _, _, _, _, _, _, _, _, _, B5, A5 (by decide), U5 (by decide), O5, (Ce5 (by decide)).orc (sg_set_or hor), Sp5⟩ ((S1.ch C14 (by omega) (lo _ (by decide))).ch C5.ch (by have := B4.2.1; omega) (by omega)) ((N1.ch C14 (by omega) (lo _ (by decide)) (lo _ (by decide))).ch C5.ch (by have := B4.2.1; omega) (by omega) (by omega))
end VDF
