section VMY
variable {X : cd_E} {kc ks : Nat} {h h' : cd_H} {Q : Option Value → cd_H → Prop} {T : Nat → Nat} {n life now cr gv us w : Nat} {sp : Nat → Bool} {ct : Option Nat} {NW : Nat → Option Nat} {AC AC' : List sg_A} {AU AU' : List sg_U} {OR : List sg_O} {CE : List sg_C}
theorem sp_Mod_fld (F : cm_ok h) (Z : cm_txt h T n) {a : Nat} {l : List Nat} (hm : (a, l) ∈ cd_csL) {k e : Nat} (hW : tx_W T n k = some e) (hT : T k = 123) {c : Int64} (hc : c = lN (tx_k (cd_csN l) 0 l.length)) (hq : Q (some (.int (cd_op (sg_fl T n l (some k))))) h) : cd_W X m_Mod_field kc ks 0 [some (.ref 82), some (.int (nI k)), some (.long c), none, none, none] [] h Q := by
  obtain ⟨k1, k2⟩ := cd_csL_ok _ hm
  rw [hc]
  exact sp_Mod_field F Z k1 (fun j hj => (k2 j hj).2) hW hT hq
theorem cd_op_lt0 {o : Option Nat} (h : ∀ x, o = some x → x < 2 ^ 31) : cd_op o < 0 ↔ o = none := by
  cases o with
  | none => exact ⟨fun _ => rfl, fun _ => cd_op_neg⟩
  | some x => exact ⟨fun z => absurd z (cd_op_pos (h x rfl)), fun z => by cases z⟩
theorem cd_op_eqn {o : Option Nat} {i : Nat} (hi : i < 2 ^ 31) (h : ∀ x, o = some x → x < 2 ^ 31) : nI i = cd_op o ↔ o = some i := by
  cases o with
  | none =>
    refine ⟨fun z => ?_, fun z => by cases z⟩
    have := nI_pos hi
    rw [z] at this
    exact absurd cd_op_neg this
  | some x =>
    show nI i = nI x ↔ _
    rw [nI_eq hi (h x rfl)]
    exact ⟨fun z => by rw [z], fun z => by cases z; rfl⟩
theorem sp_Mod_trying (R : cm_R h T n life now NW AC AU OR CE) (S : cm_sto h us ct) (N : cm_non h cr gv sp) {e0 : Nat} (hW : tx_W T n 0 = some e0) (hT : T 0 = 123) {snd : Option Nat} (hs : ∀ i, snd = some i → i < AC.length) (hq : cm_Q Q h T n life now NW cr gv sp (sg_try T n life now AC AU OR CE us ct snd)) : cd_W X m_Mod_trying kc ks 0 [some (.ref 82), some (.int (cd_op snd)), none, none] [] h Q := by
  obtain ⟨F, Z, K, Ky, W, Aa, U, O, Ce⟩ := R
  have R : cm_R h T n life now NW AC AU OR CE := ⟨F, Z, K, Ky, W, Aa, U, O, Ce⟩
  have a1 := Aa.1
  have u1 := U.1
  have ho : ∀ v, (some 0 : Option Nat) = some v → ∃ e, tx_W T n v = some e := fun v hv => by cases hv; exact ⟨e0, hW⟩
  have same : ∀ r : Int32, sg_try T n life now AC AU OR CE us ct snd = sg_same0 r AC AU OR CE us ct → Q (some (.int r)) h := fun r e => by
    have K := hq h (cm_ch.rf _ _)
    rw [e] at K
    exact K R S N
  refine g_Mod_trying F ?_
  show cd_W X m_Mod_field 0 0 0 [some (.ref 82), some (.int (nI 0)), some (.long 205355624), none, none, none] [] h _
  refine sp_Mod_fld F Z (a := 10) (l := [97, 117, 116, 104]) (by decide) hW hT (by decide) ⟨_, rfl, F, sp_Mod_numberAt F Z (sg_flo ho) ⟨_, rfl, F, ?_⟩⟩
  show cd_W X m_Mod_field 0 0 0 [some (.ref 82), some (.int (nI 0)), some (.long 1962233), none, none, none] [] h _
  refine sp_Mod_fld F Z (a := 11) (l := [119, 97, 121]) (by decide) hW hT (by decide) ⟨_, rfl, F, sp_Mod_numberAt F Z (sg_flo ho) ⟨_, rfl, F, ?_⟩⟩
  have la : ∀ x, sg_nf T n [97, 117, 116, 104] (some 0) = some x → x < 10 ^ 9 := fun x hx => sg_nf_lt ho hx
  have lw : ∀ x, sg_nf T n [119, 97, 121] (some 0) = some x → x < 10 ^ 9 := fun x hx => sg_nf_lt ho hx
  have fa : tx_num T n (sg_fl T n [97, 117, 116, 104] (some 0)) = sg_nf T n [97, 117, 116, 104] (some 0) := rfl
  have fw : tx_num T n (sg_fl T n [119, 97, 121] (some 0)) = sg_nf T n [119, 97, 121] (some 0) := rfl
  rw [fa, fw, cd_op_lt0 (fun x hx => by have := la x hx; omega), cd_op_lt0 (fun x hx => by have := lw x hx; omega), cd_op_m1 (fun x hx => by have := hs x hx; omega)]
  cases ha : sg_nf T n [97, 117, 116, 104] (some 0) with
  | none => exact ⟨fun _ => same (-1) (by unfold sg_try; rw [ha]), fun z => absurd rfl z⟩
  | some a =>
    have hal := la a ha
    refine ⟨fun z => (by cases z), fun _ => ?_⟩
    cases hw : sg_nf T n [119, 97, 121] (some 0) with
    | none => exact ⟨fun _ => same (-1) (by unfold sg_try; rw [ha, hw]), fun z => absurd rfl z⟩
    | some w =>
      have hwl := lw w hw
      refine ⟨fun z => (by cases z), fun _ => ?_⟩
      have w1 : cd_op (some w) ≤ 1 ↔ w ≤ 1 := by
        show nI w ≤ 1 ↔ _
        rw [show (1 : Int32) = nI 1 by decide, nI_leI (by omega) (by decide)]
      have ax : (nI AU.length ≤ cd_op (some a)) ↔ AU.length ≤ a := by
        show nI AU.length ≤ nI a ↔ _
        rw [nI_leI (by omega) (by omega)]
      have ac : (cd_op (some a)).toNatClampNeg = a := nI_clamp (by omega)
      rw [w1, U.2.1, ax, ac]
      refine ⟨fun t1 => ⟨fun t2 => same (-4) (by unfold sg_try; rw [ha, hw, t2]; simp only; rw [if_neg (by omega)]), fun t2 => ⟨fun t3 => ?_, fun t3 => ⟨vp_in_nI (n := a) (by omega) (by decide), ?_⟩⟩⟩, fun t1 => same (-1) (by unfold sg_try; rw [ha, hw]; simp only; rw [if_pos (by omega)])⟩
      · obtain ⟨i, hsn⟩ : ∃ i, snd = some i := by
          cases snd with
          | none => exact absurd rfl t2
          | some i => exact ⟨i, rfl⟩
        exact same (-4) (by unfold sg_try; rw [ha, hw, hsn]; simp only [List.getElem?_eq_none t3]; rw [if_neg (by omega)])
      · obtain ⟨i, hsn⟩ : ∃ i, snd = some i := by
          cases snd with
          | none => exact absurd rfl t2
          | some i => exact ⟨i, rfl⟩
        have hi := hs i hsn
        have hu : AU[a]? = some (AU[a]'(by omega)) := List.getElem?_eq_getElem (by omega)
        generalize AU[a]'(by omega) = u at hu
        obtain ⟨d1, d2, d3, d4, d5, d6, d7, d8, d9, d10, d11⟩ := U.2.2.1 a u hu
        have stl := sg_st_le AC life now u
        rw [d2, cd_op_eqn (by omega) (fun x hx => by have := hs x hx; omega)]
        refine ⟨fun t4 => same (-4) (by unfold sg_try; rw [ha, hw, hsn]; simp only [hu]; rw [if_neg (by omega), if_neg (fun z => t4 (by rw [hsn, z.1]))]), fun t4 => sp_Mod_state F K Aa U ⟨_, rfl, F, ?_⟩⟩
        have heq : sgu_own u = i := by rw [hsn] at t4; exact (Option.some.inj t4).symm
        have es : sg_sta AC life now AU (cd_op (some a)) = nI (sg_st AC life now u) := by
          show sg_sta AC life now AU (nI a) = _
          rw [sg_sta, sg_ix_nI (by omega), hu]
        have h0 : nI (sg_st AC life now u) = 0 ↔ sg_st AC life now u = 0 := by
          rw [show (0 : Int32) = nI 0 by decide, nI_eq (by omega) (by decide)]
        rw [es, h0]
        refine ⟨fun hst => ?_, fun hst => same (-4) (by unfold sg_try; rw [ha, hw, hsn]; simp only [hu]; rw [if_neg (by omega), if_neg (fun z => hst z.2)])⟩
        have e1 : (1 : Int32) + cd_op (some w) = nI (w + 1) := by
          show (1 : Int32) + nI w = _
          rw [show (1 : Int32) = nI 1 by decide, nI_add, Nat.add_comm]
        rw [e1]
        have C2 : cm_ch (fun x j => x = 103 ∧ j = a) h (cd_si h 103 a (nI (w + 1))) := cm_ch.si ⟨rfl, rfl⟩
        have ei : ∀ x j, ¬ (x = 103 ∧ j = a) → cd_i (cd_si h 103 a (nI (w + 1))) x j = cd_i h x j := C2.2.2.2
        have U2 : cm_aut (cd_si h 103 a (nI (w + 1))) now AC (AU.set a (sg_trd w u)) := by
          refine U.upd hu (fun x k hx hk => ei x k (by omega)) (by rw [ei 101 a (by omega)]; exact d5) (fun z => by rw [ei 102 a (by omega)]; exact d6 z) (by rw [cd_i_si, if_pos ⟨rfl, rfl⟩]; rfl) rfl rfl rfl ⟨d8, ?_, d11⟩
          show w + 1 ≤ 2
          omega
        have eL : (AU.set a (sg_trd w u)).length = AU.length := List.length_set
        have R2 : cm_R (cd_si h 103 a (nI (w + 1))) T n life now NW AC (AU.set a (sg_trd w u)) OR CE := ⟨C2.ok F, Z.of (fun x j hx => ei x j (by omega)), K.of (fun j hj => ei 82 j (by omega)), Ky.of (fun x j hx => ei x j (by omega)), W.of (fun x j hx => ei x j (by omega)), Aa.of (fun x j hx => ei x j (by omega)), U2, O.of (Nat.le_refl _) (by omega) (fun x j hx => ei x j (by omega)), Ce.of (Nat.le_refl _) (fun x j hx => ei x j (by omega))⟩
        have KK := hq (cd_si h 103 a (nI (w + 1))) (C2.sub (fun x j z => ⟨by omega, by omega, by omega⟩))
        have eR : sg_try T n life now AC AU OR CE us ct snd = (0, AC, AU.set a (sg_trd w u), OR, CE, us, ct, false) := by
          unfold sg_try
          rw [ha, hw, hsn]
          simp only [hu]
          rw [if_neg (by omega), if_pos ⟨heq, hst⟩]
        rw [eR] at KK
        exact KK R2 (S.of (fun j hj => ei 82 j (by omega))) (N.of (fun x j hx => ei x j (by omega)))
theorem sp_Mod_revoking (R : cm_R h T n life now NW AC AU OR CE) (S : cm_sto h us ct) (N : cm_non h cr gv sp) (hcr : cr < 1000) {e0 : Nat} (hW : tx_W T n 0 = some e0) (hT : T 0 = 123) {snd : Option Nat} (hs : ∀ i, snd = some i → i < AC.length) (hq : cm_Q Q h T n life now NW cr gv sp (sg_rev T n AC AU OR CE us ct snd)) : cd_W X m_Mod_revoking kc ks 0 [some (.ref 82), some (.int (cd_op snd)), none, none, none] [] h Q := by
  obtain ⟨F, Z, K, Ky, W, Aa, U, O, Ce⟩ := R
  have R : cm_R h T n life now NW AC AU OR CE := ⟨F, Z, K, Ky, W, Aa, U, O, Ce⟩
  have a1 := Aa.1
  have u1 := Ce.1
  have o1 := O.1
  have ho : ∀ v, (some 0 : Option Nat) = some v → ∃ e, tx_W T n v = some e := fun v hv => by cases hv; exact ⟨e0, hW⟩
  have same : ∀ r : Int32, sg_rev T n AC AU OR CE us ct snd = sg_same0 r AC AU OR CE us ct → Q (some (.int r)) h := fun r e => by
    have K := hq h (cm_ch.rf _ _)
    rw [e] at K
    exact K R S N
  refine g_Mod_revoking F ?_
  show cd_W X m_Mod_field 0 0 0 [some (.ref 82), some (.int (nI 0)), some (.long 3978722701548), none, none, none] [] h _
  refine sp_Mod_fld F Z (a := 16) (l := [115, 101, 114, 105, 97, 108]) (by decide) hW hT (by decide) ⟨_, rfl, F, sp_Mod_numberAt F Z (sg_flo ho) ⟨_, rfl, F, ?_⟩⟩
  show cd_W X m_Mod_field 0 0 0 [some (.ref 82), some (.int (nI 0)), some (.long 1963129), none, none, none] [] h _
  refine sp_Mod_fld F Z (a := 17) (l := [119, 104, 121]) (by decide) hW hT (by decide) ⟨_, rfl, F, sp_Mod_numberAt F Z (sg_flo ho) ⟨_, rfl, F, ?_⟩⟩
  have la : ∀ x, sg_nf T n [115, 101, 114, 105, 97, 108] (some 0) = some x → x < 10 ^ 9 := fun x hx => sg_nf_lt ho hx
  have lw : ∀ x, sg_nf T n [119, 104, 121] (some 0) = some x → x < 10 ^ 9 := fun x hx => sg_nf_lt ho hx
  have fa : tx_num T n (sg_fl T n [115, 101, 114, 105, 97, 108] (some 0)) = sg_nf T n [115, 101, 114, 105, 97, 108] (some 0) := rfl
  have fw : tx_num T n (sg_fl T n [119, 104, 121] (some 0)) = sg_nf T n [119, 104, 121] (some 0) := rfl
  rw [fa, fw, cd_op_lt0 (fun x hx => by have := la x hx; omega), cd_op_m1 (fun x hx => by have := hs x hx; omega)]
  cases ha : sg_nf T n [115, 101, 114, 105, 97, 108] (some 0) with
  | none => exact ⟨fun _ => same (-1) (by unfold sg_rev; rw [ha]), fun z => absurd rfl z⟩
  | some a =>
    have hal := la a ha
    refine ⟨fun z => (by cases z), fun _ => ?_⟩
    cases hw : sg_nf T n [119, 104, 121] (some 0) with
    | none => exact ⟨fun z => absurd z (by decide), fun _ => same (-1) (by unfold sg_rev; rw [ha, hw])⟩
    | some w =>
      have hwl := lw w hw
      refine ⟨fun _ => ?_, fun z => absurd (Int32.not_lt.mp (cd_op_pos (by omega))) z⟩
      have ax : (nI CE.length ≤ cd_op (some a)) ↔ CE.length ≤ a := by
        show nI CE.length ≤ nI a ↔ _
        rw [nI_leI (by omega) (by omega)]
      have ac : (cd_op (some a)).toNatClampNeg = a := nI_clamp (by omega)
      rw [Ce.2.1, ax, ac]
      refine ⟨fun t2 => same (-4) (by unfold sg_rev; rw [ha, hw, t2]), fun t2 => ⟨fun t3 => ?_, fun t3 => ⟨vp_in_nI (n := a) (by omega) (by decide), ?_⟩⟩⟩
      · obtain ⟨i, hsn⟩ : ∃ i, snd = some i := by
          cases snd with
          | none => exact absurd rfl t2
          | some i => exact ⟨i, rfl⟩
        exact same (-4) (by unfold sg_rev; rw [ha, hw, hsn]; simp only [List.getElem?_eq_none t3])
      · obtain ⟨i, hsn⟩ : ∃ i, snd = some i := by
          cases snd with
          | none => exact absurd rfl t2
          | some i => exact ⟨i, rfl⟩
        have hi := hs i hsn
        have hc : CE[a]? = some (CE[a]'(by omega)) := List.getElem?_eq_getElem (by omega)
        generalize CE[a]'(by omega) = c at hc
        obtain ⟨d1, d2, d3, d4, d5, d6, d7, d8, d9, d10⟩ := Ce.2.2 a c hc
        have eo : OR[sgc_ord c]? = some (OR[sgc_ord c]'d2) := List.getElem?_eq_getElem d2
        obtain ⟨f1, f2, -⟩ := O.2.2 _ _ eo
        have eo2 : (OR[sgc_ord c]?).map sgo_own = some (sgo_own (OR[sgc_ord c]'d2)) := by rw [eo]; rfl
        have no : ¬ ((OR[sgc_ord c]?).map sgo_own = some i ∧ sgc_why c = none ∧ w ≤ 10 ∧ ¬ w = 7) → Q (some (.int (-4))) h := fun hne => same (-4) (by unfold sg_rev; rw [ha, hw, hsn]; simp only [hc]; rw [if_neg hne])
        have own : snd = some (sgo_own (OR[sgc_ord c]'d2)) ↔ (OR[sgc_ord c]?).map sgo_own = some i := by
          rw [eo2, hsn]
          exact ⟨fun z => z.symm, fun z => z.symm⟩
        have why : (0 ≤ cd_op (sgc_why c)) ↔ ¬ sgc_why c = none := by
          rw [← cd_op_lt0 (fun x hx => by have := d10 x hx; omega)]
          exact ⟨fun z => Int32.not_lt.mpr z, fun z => Int32.not_lt.mp z⟩
        have w10 : (10 : Int32) < cd_op (some w) ↔ 10 < w := by
          show (10 : Int32) < nI w ↔ _
          rw [show (10 : Int32) = nI 10 by decide, nI_ltI (by decide) (by omega)]
        have w7 : cd_op (some w) = 7 ↔ w = 7 := by
          show nI w = 7 ↔ _
          rw [show (7 : Int32) = nI 7 by decide, nI_eq (by omega) (by decide)]
        rw [d1, nI_clamp (by omega), f2, cd_op_eqn (by omega) (fun x hx => by have := hs x hx; omega), own, d9, why, w10, w7]
        refine ⟨vp_in_nI (by omega) (by decide), fun t4 => no (fun z => t4 z.1), fun t4 => ⟨fun t5 => no (fun z => t5 z.2.1), fun t5 => ⟨fun t6 => no (fun z => by omega), fun t6 => ⟨fun t7 => ?_, fun t7 => no (fun z => z.2.2.2 t7)⟩⟩⟩⟩
        have hnone : sgc_why c = none := Decidable.not_not.mp t5
        have eR : sg_rev T n AC AU OR CE us ct snd = (sg_fr (sg_fate us ct 4) 0, AC, sg_fa (sg_fate us ct 4) AU, OR, if sg_fc (sg_fate us ct 4) then CE.set a (sg_rvd w c) else CE, sg_fu (sg_fate us ct 4) us 4, sg_ft (sg_fate us ct 4) ct, sg_fx (sg_fate us ct 4)) := by
          unfold sg_rev
          rw [ha, hw, hsn]
          simp only [hc]
          rw [if_pos ⟨t4, hnone, by omega, t7⟩]
        rw [eR] at hq
        show cd_W X m_Mod_hasRoom 0 0 0 [some (.ref 82), some (.int (nI 4))] [] h _
        refine sp_Mod_hasRoom F S (by decide) (fun hr => ⟨_, rfl, F, fun _ => ?_, fun z => absurd z (by decide)⟩) (fun hr => ⟨_, rfl, F, fun z => absurd rfl z, fun _ => ?_⟩)
        · show cd_W X m_Mod_keep 0 0 0 [some (.ref 82), some (.int (nI 4)), none] [] h _
          refine sp_Mod_keepF R S N hcr hr (fun h1f h1 C1 R1 S1 N1 => ⟨_, rfl, R1.1, ?_⟩)
          generalize hf : sg_fate us ct 4 = f at *
          have Cd : cm_ch cm_Dk h h1 := C1.sub (fun x j z => z.dk)
          have e10 : ∀ v : Int32, cd_i (cd_si h1 108 a v) 82 10 = cd_i h1 82 10 := fun v => by rw [cd_i_si, if_neg (by omega)]
          rw [e10, N1.2.2.1, N.2.2.1, sg_crq hcr]
          cases hfc : sg_fc f with
          | false =>
            have hx := sg_fcx h1f hf hfc
            refine ⟨fun _ => ⟨fun z => ?_, fun _ => ?_⟩, fun z => absurd rfl z⟩
            · rw [hx] at z; cases z
            · have K := hq h1 Cd
              simp only [hfc, sg_fr, hx] at K
              exact K R1 S1 (by simp only [hx] at N1; exact N1)
          | true =>
            refine ⟨fun z => absurd z (by decide), fun _ => ?_⟩
            have C2 : cm_ch (fun x j => x = 108 ∧ j = a) h1 (cd_si h1 108 a (nI w)) := cm_ch.si ⟨rfl, rfl⟩
            have ei : ∀ x j, ¬ (x = 108 ∧ j = a) → cd_i (cd_si h1 108 a (nI w)) x j = cd_i h1 x j := C2.2.2.2
            obtain ⟨F1, Z1, K1, Ky1, W1, A1, U1, O1, Ce1⟩ := R1
            have Ce2 : cm_cer (cd_si h1 108 a (nI w)) now OR (CE.set a (sg_rvd w c)) := by
              refine ⟨by rw [List.length_set]; exact u1, by rw [ei 82 31 (by omega), List.length_set]; exact Ce1.2.1, fun j v hv => ?_⟩
              rw [List.getElem?_set] at hv
              by_cases hij : a = j
              · subst hij
                rw [if_pos rfl, if_pos (by omega)] at hv
                cases hv
                obtain ⟨g1, g2, g3, g4, g5, g6, g7, g8, g9, g10⟩ := Ce1.2.2 a c hc
                exact ⟨by rw [ei 104 a (by omega)]; exact g1, g2, by rw [ei 105 a (by omega)]; exact g3, g4, by rw [ei 106 a (by omega)]; exact g5, g6, by rw [ei 107 a (by omega)]; exact g7, g8, by rw [cd_i_si, if_pos ⟨rfl, rfl⟩]; rfl, fun q hq => by cases hq; omega⟩
              · rw [if_neg hij] at hv
                obtain ⟨g1, g2, g3, g4, g5, g6, g7, g8, g9, g10⟩ := Ce1.2.2 j v hv
                exact ⟨by rw [ei 104 j (by omega)]; exact g1, g2, by rw [ei 105 j (by omega)]; exact g3, g4, by rw [ei 106 j (by omega)]; exact g5, g6, by rw [ei 107 j (by omega)]; exact g7, g8, by rw [ei 108 j (by omega)]; exact g9, g10⟩
            have R2 : cm_R (cd_si h1 108 a (nI w)) T n life now NW AC (sg_fa f AU) OR (CE.set a (sg_rvd w c)) := ⟨C2.ok F1, Z1.of (fun x j hx => ei x j (by omega)), K1.of (fun j hj => ei 82 j (by omega)), Ky1.of (fun x j hx => ei x j (by omega)), W1.of (fun x j hx => ei x j (by omega)), A1.of (fun x j hx => ei x j (by omega)), U1.of (fun x j hx => ei x j (by omega)), O1.of (Nat.le_refl _) (Nat.le_refl _) (fun x j hx => ei x j (by omega)), Ce2⟩
            have K := hq (cd_si h1 108 a (nI w)) (Cd.tr (C2.sub (fun x j z => ⟨by omega, by omega, by omega⟩)))
            simp only [hfc] at K
            have K2 := K R2 (S1.of (fun j hj => ei 82 j (by omega))) (N1.of (fun x j hx => ei x j (by omega)))
            cases hx : sg_fx f with
            | true =>
              simp only [sg_fr, hx] at K2
              exact ⟨fun z => (by cases z), fun _ => K2⟩
            | false =>
              simp only [sg_fr, hx, hfc] at K2
              exact ⟨fun _ => K2, fun z => absurd rfl z⟩
        · have hf := sg_fate1 (ct := ct) hr
          have K := hq h (cm_ch.rf _ _)
          simp only [hf] at K
          exact K R S N
end VMY
