def cm_scr (x j : Nat) : Prop := x = 112 ∨ x = 113 ∨ x = 84 ∨ x = 88 ∨ x = 111 ∨ (x = 82 ∧ j = 42)
theorem cd_o.mch {A : Nat} {h h' : cd_H} (a : cd_o A h h') (hA : ∀ j, cm_scr A j) : cm_ch cm_scr h h' := ⟨a.1, a.2.1, a.2.2.1, fun x j hx => a.2.2.2.2 x j (fun z => hx (by rw [z]; exact hA j))⟩
section VMG
variable {X : cd_E} {kc ks : Nat} {h h' : cd_H} {Q : Option Value → cd_H → Prop} {T : Nat → Nat} {n life now cr gv us w : Nat} {sp : Nat → Bool} {ct : Option Nat} {NW : Nat → Option Nat} {AC AC' : List sg_A} {AU AU' : List sg_U} {OR : List sg_O} {CE : List sg_C}
theorem cm_scr.no {x j : Nat} (h1 : ¬ (x = 112 ∨ x = 113)) (h2 : ¬ x = 84) (h3 : ¬ x = 88) (h4 : ¬ x = 111) (h5 : x = 82 → ¬ j = 42) : ¬ cm_scr x j := fun z => by
  rcases z with z | z | z | z | z | z
  · exact h1 (Or.inl z)
  · exact h1 (Or.inr z)
  · exact h2 z
  · exact h3 z
  · exact h4 z
  · exact h5 z.1 z.2
theorem cm_R.scr (R : cm_R h T n life now NW AC AU OR CE) (C : cm_ch cm_scr h h') : cm_R h' T n life now NW AC AU OR CE := by
  obtain ⟨F, Z, K, Ky, W, Aa, U, O, Ce⟩ := R
  have e : ∀ x j, ¬ (x = 112 ∨ x = 113) → ¬ x = 84 → ¬ x = 88 → ¬ x = 111 → (x = 82 → ¬ j = 42) → cd_i h' x j = cd_i h x j := fun x j h1 h2 h3 h4 h5 => C.2.2.2 x j (cm_scr.no h1 h2 h3 h4 h5)
  exact ⟨C.ok F, Z.of (fun x j hx => e x j (by omega) (by omega) (by omega) (by omega) (by omega)), K.of (fun j hj => e 82 j (by decide) (by decide) (by decide) (by decide) (by omega)), Ky.of (fun x j hx => e x j (by omega) (by omega) (by omega) (by omega) (by omega)), W.of (fun x j hx => e x j (by omega) (by omega) (by omega) (by omega) (by omega)), Aa.of (fun x j hx => e x j (by omega) (by omega) (by omega) (by omega) (by omega)), U.of (fun x j hx => e x j (by omega) (by omega) (by omega) (by omega) (by omega)), O.of (Nat.le_refl _) (Nat.le_refl _) (fun x j hx => e x j (by omega) (by omega) (by omega) (by omega) (by omega)), Ce.of (Nat.le_refl _) (fun x j hx => e x j (by omega) (by omega) (by omega) (by omega) (by omega))⟩
theorem cm_sto.scr (S : cm_sto h us ct) (C : cm_ch cm_scr h h') : cm_sto h' us ct := S.of (fun j hj => C.2.2.2 82 j (cm_scr.no (by decide) (by decide) (by decide) (by decide) (by omega)))
theorem cm_non.scr (N : cm_non h cr gv sp) (C : cm_ch cm_scr h h') : cm_non h' cr gv sp := N.of (fun x j hx => C.2.2.2 x j (cm_scr.no (by omega) (by omega) (by omega) (by omega) (by omega)))
theorem cm_scr.dk {x j : Nat} (z : cm_scr x j) : cm_Dk x j := by
  rcases z with z | z | z | z | z | z <;> exact ⟨by omega, by omega, by omega⟩
theorem sp_Mod_finishing_150 (F : cm_ok h) (Z : cm_txt h T n) {l : List Nat} {a j p : Nat} {v4 : Int32} {m : Nat × (Nat → Nat)} (hl : l.length ≤ 3) (ha : a < 12) (hj : j < 3) (st : ∀ i q, l[i]? = some q → i < 3 → cd_i h 112 i = nI q) (hls : ∀ q, q ∈ l → ∃ c, tx_s T n q = some c) (hp : p < 24) (e95 : cd_i h 95 (3 * a + j) = nI p) (A : cm_nam h p m.2 m.1) (h1 : l.any (fun q => sg_spB T n q m) = true → cd_W X m_Mod_finishing kc ks 137 [some (.ref 82), none, some (.int (nI a)), none, some (.int v4), some (.int (nI l.length)), some (.int (nI (j + 1))), none, none] [] h Q) (h0 : l.any (fun q => sg_spB T n q m) = false → Q (some (.int (-4))) h) : ∀ r k (b : Bool), r + k = l.length → l.any (fun q => sg_spB T n q m) = (b || (l.drop k).any (fun q => sg_spB T n q m)) → cd_W X m_Mod_finishing kc ks 150 [some (.ref 82), none, some (.int (nI a)), none, some (.int v4), some (.int (nI l.length)), some (.int (nI j)), some (.int (b2i b)), some (.int (nI k))] [] h Q := by
  have z1 := Z.1
  have e3 : (3 : Int32) * nI a + nI j = nI (3 * a + j) := by rw [show (3 : Int32) = nI 3 by decide, pk_mul, nI_add]
  intro r
  induction r with
  | zero =>
    intro k b hk e
    rw [List.drop_of_length_le (by omega), List.any_nil, Bool.or_false] at e
    refine g_Mod_finishing_150 F ?_
    rw [nI_leI (by omega) (by omega), nI_1]
    refine ⟨fun _ => ?_, fun t => by omega⟩
    cases b with
    | true => exact ⟨fun _ => h1 e, fun z => absurd z (by decide)⟩
    | false => exact ⟨fun z => absurd rfl z, fun _ => h0 e⟩
  | succ r ih =>
    intro k b hk e
    have hlt : k < l.length := by omega
    have el : l[k]? = some l[k] := List.getElem?_eq_getElem hlt
    obtain ⟨c, hs⟩ := hls _ (List.getElem_mem hlt)
    rw [List.drop_eq_getElem_cons hlt, List.any_cons] at e
    refine g_Mod_finishing_150 F ?_
    rw [nI_leI (by omega) (by omega), nI_1, nI_1, e3, nI_clamp (by omega), nI_clamp (by omega)]
    refine ⟨fun t => by omega, fun _ => ?_⟩
    cases b with
    | true =>
      refine ⟨fun _ => ?_, fun z => absurd z (by decide)⟩
      exact ih (k + 1) true (by omega) (by rw [e]; rfl)
    | false =>
      refine ⟨fun z => absurd rfl z, fun _ => ⟨vp_in_nI (by omega) (by decide), vp_in_nI (by omega) (by decide), ?_⟩⟩
      rw [st k _ el (by omega), e95]
      rw [Bool.false_or] at e
      refine sp_Mod_names F Z A hp hs (fun hh => ⟨_, rfl, F, fun z => absurd z (by decide), fun _ => ?_⟩) (fun hh => ⟨_, rfl, F, fun _ => ?_, fun z => absurd rfl z⟩)
      · rw [(sg_spB_iff hs).mpr hh] at e
        exact ih (k + 1) true (by omega) e
      · have : sg_spB T n l[k] m = false := by
          cases hb : sg_spB T n l[k] m with
          | false => rfl
          | true => exact absurd ((sg_spB_iff hs).mp hb) hh
        rw [this, Bool.false_or] at e
        exact ih (k + 1) false (by omega) (by rw [e, Bool.false_or])
theorem sp_Mod_finishing (R : cm_R h T n life now NW AC AU OR CE) (S : cm_sto h us ct) (N : cm_non h cr gv sp) (hcr : cr < 1000) (I : sg_I AC AU OR CE) {e0 : Nat} (hW : tx_W T n 0 = some e0) (hT : T 0 = 123) {snd : Option Nat} (hs : ∀ i, snd = some i → i < AC.length) (hq : cm_Q Q h T n life now NW cr gv sp (sg_fin T n life now AC AU OR CE us ct snd)) : cd_W X m_Mod_finishing kc ks 0 [some (.ref 82), some (.int (cd_op snd)), none, none, none, none, none, none, none] [] h Q := by
  have F := R.1
  have Z := R.2.1
  have a1 := R.2.2.2.2.2.1.1
  have z1 := Z.1
  have ho : ∀ v, (some 0 : Option Nat) = some v → ∃ e, tx_W T n v = some e := fun v hv => by cases hv; exact ⟨e0, hW⟩
  have ho2 : ∀ v, sg_fl T n [99, 115, 114] (some 0) = some v → ∃ e, tx_W T n v = some e := sg_flo ho
  have same : ∀ r : Int32, sg_fin T n life now AC AU OR CE us ct snd = sg_same0 r AC AU OR CE us ct → Q (some (.int r)) h := fun r e => by
    have K := hq h (cm_ch.rf _ _)
    rw [e] at K
    exact K R S N
  refine g_Mod_finishing F ?_
  show cd_W X m_Mod_field 0 0 0 [some (.ref 82), some (.int (nI 0)), some (.long 30037062386), none, none, none] [] h _
  refine sp_Mod_fld F Z (a := 7) (l := [111, 114, 100, 101, 114]) (by decide) hW hT (by decide) ⟨_, rfl, F, sp_Mod_numberAt F Z (sg_flo ho) ⟨_, rfl, F, ?_⟩⟩
  show cd_W X m_Mod_field 0 0 0 [some (.ref 82), some (.int (nI 0)), some (.long 1636850), none, none, none] [] h _
  refine sp_Mod_fld F Z (a := 13) (l := [99, 115, 114]) (by decide) hW hT (by decide) ⟨_, rfl, F, ?_⟩
  have la : ∀ x, sg_nf T n [111, 114, 100, 101, 114] (some 0) = some x → x < 10 ^ 9 := fun x hx => sg_nf_lt ho hx
  have lc : ∀ x, sg_fl T n [99, 115, 114] (some 0) = some x → x < 96 := fun x hx => by
    obtain ⟨e, he⟩ := ho2 x hx
    have := tx_W_lt he
    omega
  have fa : tx_num T n (sg_fl T n [111, 114, 100, 101, 114] (some 0)) = sg_nf T n [111, 114, 100, 101, 114] (some 0) := rfl
  rw [fa, cd_op_lt0 (fun x hx => by have := la x hx; omega), cd_op_lt0 (fun x hx => by have := lc x hx; omega)]
  cases ha : sg_nf T n [111, 114, 100, 101, 114] (some 0) with
  | none => exact ⟨fun _ => same (-1) (by unfold sg_fin; rw [ha]), fun z => absurd rfl z⟩
  | some a =>
  have hal := la a ha
  refine ⟨fun z => (by cases z), fun _ => ?_⟩
  have kno : (∀ v, sg_fl T n [99, 115, 114] (some 0) = some v → ¬ T v = 123) → sg_nf T n [107, 101, 121] (sg_fl T n [99, 115, 114] (some 0)) = none := fun hno => by
    unfold sg_nf
    have : sg_fl T n [107, 101, 121] (sg_fl T n [99, 115, 114] (some 0)) = none := by
      cases hv : sg_fl T n [99, 115, 114] (some 0) with
      | none => rfl
      | some v =>
        show tx_f T n _ _ (some v) = none
        rw [tx_f, if_neg (fun z => hno v hv z.2)]
    rw [this]
    rfl
  cases hcs : sg_fl T n [99, 115, 114] (some 0) with
  | none =>
    have hkn := kno (fun v hv => by rw [hcs] at hv; cases hv)
    exact ⟨fun _ => same (-1) (by unfold sg_fin; rw [ha, hkn]), fun z => absurd rfl z⟩
  | some v =>
  have hvl := lc v hcs
  obtain ⟨ev, hWv⟩ := ho2 v hcs
  have hvn := (tx_W_lt hWv).1
  refine ⟨fun z => (by cases z), fun _ => ?_⟩
  show cd_W X m_Mod_at 0 0 0 [some (.ref 82), some (.int (nI v))] [] h _
  refine sp_Mod_at F Z (by omega) ⟨_, rfl, F, ?_⟩
  have hTv := Z.2.2.2 v hvn
  have c123 : nI (tx_at T n v) = 123 ↔ T v = 123 := by
    rw [tx_at, if_pos hvn, show (123 : Int32) = nI 123 by decide, nI_eq (by omega) (by decide)]
  rw [c123]
  by_cases hv3 : T v = 123
  case neg =>
    have hkn := kno (fun v' hv' => by rw [hcs] at hv'; cases hv'; exact hv3)
    exact ⟨fun z => absurd z hv3, fun _ => same (-1) (by unfold sg_fin; rw [ha, hkn])⟩
  refine ⟨fun _ => ?_, fun z => absurd hv3 z⟩
  have hov : ∀ u, (some v : Option Nat) = some u → ∃ e, tx_W T n u = some e := fun u hu => by cases hu; exact ⟨ev, hWv⟩
  show cd_W X m_Mod_field 0 0 0 [some (.ref 82), some (.int (nI v)), some (.long 1766137), none, none, none] [] h _
  refine sp_Mod_fld F Z (a := 14) (l := [107, 101, 121]) (by decide) hWv hv3 (by decide) ⟨_, rfl, F, sp_Mod_numberAt F Z (sg_flo hov) ⟨_, rfl, F, ?_⟩⟩
  show cd_W X m_Mod_field 0 0 0 [some (.ref 82), some (.int (nI v)), some (.long 29733122803), none, none, none] [] h _
  refine sp_Mod_fld F Z (a := 8) (l := [110, 97, 109, 101, 115]) (by decide) hWv hv3 (by decide) ⟨_, rfl, F, sp_Mod_strings F Z (sg_flo hov) (fun h0 C0 st => ⟨_, rfl, C0.mok F, ?_⟩)⟩
  have C0m : cm_ch cm_scr h h0 := C0.mch (fun j => Or.inl rfl)
  have R0 := R.scr C0m
  have S0 := S.scr C0m
  have N0 := N.scr C0m
  have C0d : cm_ch cm_Dk h h0 := C0m.sub (fun x j z => z.dk)
  obtain ⟨F0, Z0, K0, Ky0, W0, Aa, U, O, Ce⟩ := R0
  have R0 : cm_R h0 T n life now NW AC AU OR CE := ⟨F0, Z0, K0, Ky0, W0, Aa, U, O, Ce⟩
  have o1 := O.1
  have same0 : ∀ r : Int32, sg_fin T n life now AC AU OR CE us ct snd = sg_same0 r AC AU OR CE us ct → Q (some (.int r)) h0 := fun r e => by
    have K := hq h0 C0d
    rw [e] at K
    exact K R0 S0 N0
  have lk : ∀ x, sg_nf T n [107, 101, 121] (some v) = some x → x < 10 ^ 9 := fun x hx => sg_nf_lt hov hx
  have ll : ∀ l, tx_z T n (sg_fl T n [110, 97, 109, 101, 115] (some v)) = some l → l.length ≤ 96 := fun l hl => tx_z_len hl
  have fk : tx_num T n (sg_fl T n [107, 101, 121] (some v)) = sg_nf T n [107, 101, 121] (some v) := rfl
  rw [fk, cd_op_lt0 (fun x hx => by have := lk x hx; omega)]
  cases hk : sg_nf T n [107, 101, 121] (some v) with
  | none => exact ⟨fun _ => same0 (-1) (by unfold sg_fin; rw [ha, hcs, hk]), fun z => absurd rfl z⟩
  | some key =>
  have hkl := lk key hk
  refine ⟨fun z => (by cases z), fun _ => ?_⟩
  cases hz : tx_z T n (sg_fl T n [110, 97, 109, 101, 115] (some v)) with
  | none => exact ⟨fun z => absurd z (by decide), fun _ => same0 (-1) (by unfold sg_fin; rw [ha, hcs, hk, hz])⟩
  | some l =>
  have hll := ll l hz
  have elo : tx_lo (some l) = nI l.length := rfl
  rw [elo]
  refine ⟨fun _ => ?_, fun z => absurd (Int32.not_lt.mp (nI_pos (by omega))) z⟩
  rw [cd_op_m1 (fun x hx => by have := hs x hx; omega)]
  have ax : (nI OR.length ≤ cd_op (some a)) ↔ OR.length ≤ a := by
    show nI OR.length ≤ nI a ↔ _
    rw [nI_leI (by omega) (by omega)]
  have ac : (cd_op (some a)).toNatClampNeg = a := nI_clamp (by omega)
  rw [O.2.1, ax, ac]
  refine ⟨fun t1 => same0 (-4) (by unfold sg_fin; rw [ha, hcs, hk, hz, t1]), fun t1 => ?_⟩
  obtain ⟨i, hsn⟩ : ∃ i, snd = some i := by
    cases snd with
    | none => exact absurd rfl t1
    | some i => exact ⟨i, rfl⟩
  refine ⟨fun t2 => same0 (-4) (by unfold sg_fin; rw [ha, hcs, hk, hz, hsn]; simp only [List.getElem?_eq_none t2]), fun t2 => ⟨vp_in_nI (n := a) (by omega) (by decide), ?_⟩⟩
  have hor : OR[a]? = some (OR[a]'(by omega)) := List.getElem?_eq_getElem (by omega)
  generalize OR[a]'(by omega) = o at hor
  obtain ⟨d1, d2, d3, d4, d5, d6, d7, d8, d9⟩ := O.2.2 a o hor
  have no : ∀ hX, cm_ch cm_Dk h hX → cm_R hX T n life now NW AC AU OR CE → cm_sto hX us ct → cm_non hX cr gv sp → ¬ (sgo_own o = i ∧ sg_os AC life now AU o = 1 ∧ 3 ≤ key ∧ sg_amB T n (sg_nms AU OR a) l = true) → Q (some (.int (-4))) hX := fun hX CX RX SX NX hne => by
    have K := hq hX CX
    have e : sg_fin T n life now AC AU OR CE us ct snd = sg_same0 (-4) AC AU OR CE us ct := by
      unfold sg_fin
      rw [ha, hcs, hk, hz, hsn]
      simp only [hor]
      rw [if_neg hne]
    rw [e] at K
    exact K RX SX NX
  rw [d2, cd_op_eqn (by omega) (fun x hx => by have := hs x hx; omega), hsn]
  refine ⟨fun t3 => no h0 C0d R0 S0 N0 (fun z => t3 (by rw [z.1])), fun t3 => sp_Mod_order F0 K0 Aa U O ⟨_, rfl, F0, ?_⟩⟩
  have t3 : sgo_own o = i := (Option.some.inj t3).symm
  have es : sg_ost AC life now AU OR (cd_op (some a)) = nI (sg_os AC life now AU o) := by
    show sg_ost AC life now AU OR (nI a) = _
    rw [sg_ost, sg_ix_nI (by omega), hor]
  have osl : sg_os AC life now AU o < 2 ^ 31 := by
    unfold sg_os
    split
    · decide
    · split
      · decide
      · split <;> decide
  have os1 : nI (sg_os AC life now AU o) = 1 ↔ sg_os AC life now AU o = 1 := by
    rw [show (1 : Int32) = nI 1 by decide, nI_eq osl (by decide)]
  have k3 : cd_op (some key) < 3 ↔ key < 3 := by
    show nI key < 3 ↔ _
    rw [show (3 : Int32) = nI 3 by decide, nI_ltI (by omega) (by decide)]
  have en : sg_nms AU OR a = (sgo_parts o).map (sg_nmU AU) := by rw [sg_nms, hor]
  have CN := cm_cn.mk U O (by omega : a < OR.length)
  have nml : (sg_nms AU OR a).length = (sgo_parts o).length := by rw [en, List.length_map]
  rw [es, os1, k3, d6, nI_eq (by omega) (by omega)]
  refine ⟨fun t4 => no h0 C0d R0 S0 N0 (fun z => t4 z.2.1), fun t4 => ⟨fun t5 => no h0 C0d R0 S0 N0 (fun z => by omega), fun t5 => ⟨fun t6 => ?_, fun t6 => no h0 C0d R0 S0 N0 (fun z => ?_)⟩⟩⟩
  case refine_2 =>
    have := z.2.2.2
    unfold sg_amB at this
    rw [decide_eq_false (by omega)] at this
    cases this
  have hcl : CE.length < 12 := by
    have := sg_cnt_lt OR a o hor (sg_os1 t4)
    have := I.2.2
    omega
  have ham : sg_amB T n (sg_nms AU OR a) l = (sg_nms AU OR a).all (fun m => l.any (fun q => sg_spB T n q m)) := by
    unfold sg_amB
    rw [decide_eq_true (by omega), Bool.true_and]
  have loop : ∀ r j, r + j = l.length → (sg_nms AU OR a).all (fun m => l.any (fun q => sg_spB T n q m)) = ((sg_nms AU OR a).drop j).all (fun m => l.any (fun q => sg_spB T n q m)) → cd_W X m_Mod_finishing kc ks 137 [some (.ref 82), none, some (.int (nI a)), none, some (.int (nI key)), some (.int (nI l.length)), some (.int (nI j)), none, none] [] h0 Q := by
    intro r
    induction r with
    | zero =>
      intro j hj e
      rw [List.drop_of_length_le (by omega), List.all_nil] at e
      have eR : sg_fin T n life now AC AU OR CE us ct snd = (sg_fr (sg_fate us ct 5) (nI CE.length), AC, sg_fa (sg_fate us ct 5) AU, if sg_fc (sg_fate us ct 5) then OR.set a (sg_crd CE.length o) else OR, if sg_fc (sg_fate us ct 5) then CE ++ [(a, key, now, sg_sea (sg_nms AU OR a) CE.length now key, none)] else CE, sg_fu (sg_fate us ct 5) us 5, sg_ft (sg_fate us ct 5) ct, sg_fx (sg_fate us ct 5)) := by
        unfold sg_fin
        rw [ha, hcs, hk, hz, hsn]
        simp only [hor]
        rw [if_pos ⟨t3, t4, by omega, by rw [ham]; exact e⟩]
      rw [hsn] at eR
      rw [hsn, eR] at hq
      refine g_Mod_finishing_137 F0 ?_
      rw [nI_leI (by omega) (by omega)]
      refine ⟨fun _ => ?_, fun t => by omega⟩
      show cd_W X m_Mod_hasRoom 0 0 0 [some (.ref 82), some (.int (nI 5))] [] h0 _
      refine sp_Mod_hasRoom F0 S0 (by decide) (fun hr => ⟨_, rfl, F0, fun _ => ?_, fun z => absurd z (by decide)⟩) (fun hr => ⟨_, rfl, F0, fun z => absurd rfl z, fun _ => ?_⟩)
      · show cd_W X m_Mod_keep 0 0 0 [some (.ref 82), some (.int (nI 5)), none] [] h0 _
        refine sp_Mod_keepF R0 S0 N0 hcr hr (fun h1f h1 C1 R1 S1 N1 => ⟨_, rfl, R1.1, ?_⟩)
        generalize hf : sg_fate us ct 5 = f at *
        have Cd : cm_ch cm_Dk h h1 := C0d.tr (C1.sub (fun x j z => z.dk))
        rw [N1.2.2.1, N0.2.2.1, sg_crq hcr]
        cases hfc : sg_fc f with
        | false =>
          have hx := sg_fcx h1f hf hfc
          refine ⟨fun _ => ⟨fun z => ?_, fun _ => ?_⟩, fun z => absurd rfl z⟩
          · rw [hx] at z; cases z
          · have K := hq h1 Cd
            simp only [hfc, sg_fr, hx] at K
            exact K R1 S1 (by simp only [hx] at N1; exact N1)
        | true =>
          refine ⟨fun z => absurd z (by decide), fun _ => ?_⟩
          have enm : sg_nms (sg_fa f AU) OR a = sg_nms AU OR a := by
            unfold sg_nms
            rw [hor]
            simp only
            rw [show sg_nmU (sg_fa f AU) = sg_nmU AU from funext (fun p => sg_nmU_cg (sg_fa_nm f AU))]
          refine sp_Mod_certify R1 hcl hor hkl (fun h2 C2 R2 => ⟨rfl, R2.1, ?_⟩)
          rw [enm] at R2
          have no2 : ∀ x j, ¬ x = 96 → ¬ (104 ≤ x ∧ x ≤ 108) → ¬ x = 111 → ¬ x = 88 → (x = 82 → ¬ j = 31 ∧ ¬ j = 42) → cd_i h2 x j = cd_i h1 x j := fun x j q1 q2 q3 q4 q5 => C2.2.2.2 x j (fun z => by
            rcases z with z | z | z | z | z
            · have := q5 z.1; omega
            · exact q1 z.1
            · exact q2 z.1
            · exact q3 z
            · exact q4 z)
          have S2 : cm_sto h2 (sg_fu f us 5) (sg_ft f ct) := S1.of (fun j hj => no2 82 j (by decide) (by decide) (by decide) (by decide) (by omega))
          have N2 : cm_non h2 (sg_ncr (sg_fx f) cr) (sg_ngv (sg_fx f) gv) (sg_nsp (sg_fx f) sp) := N1.of (fun x j hx => no2 x j (by omega) (by omega) (by omega) (by omega) (by omega))
          have e31 : cd_i h2 82 31 = nI (CE.length + 1) := by
            have := R2.2.2.2.2.2.2.2.2.2.1
            rw [List.length_append, List.length_singleton] at this
            exact this
          rw [N2.2.2.1, sg_crq hcr, e31, nI_pred]
          have K := hq h2 (Cd.tr (C2.sub (fun x j z => by
            rcases z with z | z | z | z | z <;> exact ⟨by omega, by omega, by omega⟩)))
          simp only [hfc] at K
          have K2 := K R2 S2 N2
          cases hx : sg_fx f with
          | true =>
            simp only [sg_fr, hx] at K2
            exact ⟨fun z => (by cases z), fun _ => K2⟩
          | false =>
            simp only [sg_fr, hx, hfc] at K2
            exact ⟨fun _ => K2, fun z => absurd rfl z⟩
      · have hf := sg_fate1 (ct := ct) hr
        have K := hq h0 C0d
        simp only [hf] at K
        exact K R0 S0 N0
    | succ r ih =>
      intro j hj e
      have hlt : j < (sg_nms AU OR a).length := by omega
      have el : (sg_nms AU OR a)[j]? = some (sg_nms AU OR a)[j] := List.getElem?_eq_getElem hlt
      obtain ⟨p, p1, p2, p3⟩ := CN.2.2.2 j _ el
      rw [List.drop_eq_getElem_cons hlt, List.all_cons] at e
      refine g_Mod_finishing_137 F0 ?_
      rw [nI_leI (by omega) (by omega)]
      refine ⟨fun t => by omega, fun _ => ?_⟩
      show cd_W X m_Mod_finishing kc ks 150 [some (.ref 82), none, some (.int (nI a)), none, some (.int (nI key)), some (.int (nI l.length)), some (.int (nI j)), some (.int (b2i false)), some (.int (nI 0))] [] h0 Q
      refine sp_Mod_finishing_150 F0 Z0 (by omega) (by omega) (by omega) (st l hz) (tx_z_s hz) p1 p2 p3 (fun hh => ?_) (fun hh => ?_) l.length 0 false (by omega) (by rw [List.drop_zero, Bool.false_or])
      · rw [hh, Bool.true_and] at e
        exact ih (j + 1) (by omega) e
      · rw [hh, Bool.false_and] at e
        exact no h0 C0d R0 S0 N0 (fun z => by
          have := z.2.2.2
          rw [ham, e] at this
          cases this)
  exact loop l.length 0 (by omega) (by rw [List.drop_zero])
end VMG
