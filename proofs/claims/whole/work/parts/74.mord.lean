theorem cd_ne {a b : Nat} (hne : ¬ b = a) (h : cd_H) (k : Nat) (x : Int32) (j : Nat) : cd_i (cd_si h a k x) b j = cd_i h b j := by rw [cd_i_si, if_neg (fun z => hne z.1)]
section VMP
variable {X : cd_E} {kc ks : Nat} {h h' : cd_H} {Q : Option Value → cd_H → Prop} {T : Nat → Nat} {n life now cr gv us w : Nat} {sp : Nat → Bool} {ct : Option Nat} {NW : Nat → Option Nat} {AC AC' : List sg_A} {AU AU' : List sg_U} {OR : List sg_O} {CE : List sg_C}
theorem sp_Mod_ordering_27 (F : cm_ok h) (Z : cm_txt h T n) {l : List Nat} {v1 : Int32} (hl : 1 ≤ l.length ∧ l.length ≤ 3) (st : ∀ i q, l[i]? = some q → i < 3 → cd_i h 112 i = nI q) (hls : ∀ q, q ∈ l → ∃ c, tx_s T n q = some c) (h1 : sg_nok T n l → (¬ v1 = -1 → cd_W X m_Mod_ordering kc ks 106 [some (.ref 82), some (.int v1), some (.int (nI l.length)), some (.int (nI 0)), some (.int (nI 5)), some (.int (nI 0)), none] [] h Q) ∧ (v1 = -1 → Q (some (.int (-4))) h)) (h0 : ¬ sg_nok T n l → Q (some (.int (-1))) h) : cd_W X m_Mod_ordering kc ks 27 [some (.ref 82), some (.int v1), some (.int (nI l.length)), some (.int (nI 0)), none, none, none] [] h Q := by
  have loop : ∀ r i, r + i = l.length → (∀ k q, k < i → l[k]? = some q → tx_nm T q (sg_sl T n q)) → (∀ j k a b, k < i → j < k → l[j]? = some a → l[k]? = some b → ¬ tx_sm T a b (sg_sl T n a) (sg_sl T n b)) → cd_W X m_Mod_ordering kc ks 27 [some (.ref 82), some (.int v1), some (.int (nI l.length)), some (.int (nI i)), none, none, none] [] h Q := by
    intro r
    induction r with
    | zero =>
      intro i hi p1 p2
      refine g_Mod_ordering_27 F ?_
      rw [nI_leI (by omega) (by omega)]
      exact ⟨fun _ => h1 ⟨fun k q hq => p1 k q (by have := (List.getElem?_eq_some_iff.mp hq).1; omega) hq, fun j k a b hj ha hb => p2 j k a b (by have := (List.getElem?_eq_some_iff.mp hb).1; omega) hj ha hb⟩, fun t => by omega⟩
    | succ r ih =>
      intro i hi p1 p2
      have hlt : i < l.length := by omega
      have el : l[i]? = some l[i] := List.getElem?_eq_getElem hlt
      obtain ⟨c, hs⟩ := hls _ (List.getElem_mem hlt)
      refine g_Mod_ordering_27 F ?_
      rw [nI_leI (by omega) (by omega)]
      refine ⟨fun t => by omega, fun _ => ?_⟩
      have inner : ∀ r' j, r' + j = i → (∀ j' a, j' < j → l[j']? = some a → ¬ tx_sm T a l[i] (sg_sl T n a) (sg_sl T n l[i])) → cd_W X m_Mod_ordering kc ks 35 [some (.ref 82), some (.int v1), some (.int (nI l.length)), some (.int (nI i)), some (.int (nI j)), none, none] [] h Q := by
        intro r'
        induction r' with
        | zero =>
          intro j hj p3
          refine g_Mod_ordering_35 F ?_
          rw [nI_leI (by omega) (by omega), nI_clamp (by omega), st i _ el (by omega), nI_1]
          refine ⟨fun _ => ⟨vp_in_nI (by omega) (by decide), sp_Mod_isName F Z hs (fun hn => ⟨_, rfl, F, fun _ => ?_, fun z => absurd z (by decide)⟩) (fun hn => ⟨_, rfl, F, fun z => absurd rfl z, fun _ => h0 (fun z => hn ?_)⟩)⟩, fun t => by omega⟩
          · refine ih (i + 1) (by omega) (fun k q hk hq => ?_) (fun j' k a b hk hj' ha hb => ?_)
            · by_cases e : k = i
              · rw [e, el] at hq
                cases hq
                rw [sg_sl_eq hs]
                exact hn
              · exact p1 k q (by omega) hq
            · by_cases e : k = i
              · rw [e, el] at hb
                cases hb
                exact p3 j' a (by omega) ha
              · exact p2 j' k a b (by omega) hj' ha hb
          · have := z.1 i _ el
            rw [sg_sl_eq hs] at this
            exact this
        | succ r' ih' =>
          intro j hj p3
          have hjl : j < l.length := by omega
          have ej : l[j]? = some l[j] := List.getElem?_eq_getElem hjl
          obtain ⟨d, hd⟩ := hls _ (List.getElem_mem hjl)
          refine g_Mod_ordering_35 F ?_
          rw [nI_leI (by omega) (by omega), nI_1, nI_1, nI_clamp (by omega : i < 2 ^ 31), nI_clamp (by omega : j < 2 ^ 31), st i _ el (by omega), st j _ ej (by omega)]
          refine ⟨fun t => by omega, fun _ => ⟨vp_in_nI (by omega) (by decide), vp_in_nI (by omega) (by decide), sp_Mod_sameText F Z hd hs (fun hh => ⟨_, rfl, F, fun z => absurd z (by decide), fun _ => h0 (fun z => ?_)⟩) (fun hh => ⟨_, rfl, F, fun _ => ?_, fun z => absurd rfl z⟩)⟩⟩
          · refine z.2 j i _ _ (by omega) ej el ?_
            rw [sg_sl_eq hs, sg_sl_eq hd]
            exact hh
          · refine ih' (j + 1) (by omega) (fun j' a hj' ha => ?_)
            by_cases e : j' = j
            · rw [e, ej] at ha
              cases ha
              intro z
              rw [sg_sl_eq hs, sg_sl_eq hd] at z
              exact hh z
            · exact p3 j' a (by omega) ha
      exact inner i 0 (by omega) (fun j' a hj' => by omega)
  exact loop l.length 0 (by omega) (fun k q hk => by omega) (fun j k a b hk => by omega)
theorem sp_Mod_ordering_128 {l : List Nat} {i k q c f0 w0 : Nat} (hk3 : k < 3) (hs : tx_s T n q = some c) (hi : i < 4) (hw0 : w0 < 1000) (hc12 : sg_sl T n q ≤ 12) : ∀ (a : Nat) (h : cd_H), a ≤ AU.length → cm_ok h → cm_txt h T n → cm_clk h life now → cm_acc h AC → cm_aut h now AC AU → cd_i h 112 k = nI q → cd_i h 113 k = cd_op (sg_fp (sg_pq T n life now AC i q) (AU.drop a) a) → (∀ h', cm_ch (fun x j => x = 113 ∧ j = k) h h' → cd_i h' 113 k = cd_op (sg_pp T n life now AC AU i q) → cd_W X m_Mod_ordering kc ks 106 [some (.ref 82), some (.int (nI i)), some (.int (nI l.length)), some (.int (nI (f0 + (match sg_pp T n life now AC AU i q with
    | some _ => 0
    | none => 1)))), some (.int (nI (w0 + (match sg_pp T n life now AC AU i q with
    | some _ => 1
    | none => 2 + sg_sl T n q)))), some (.int (nI (k + 1))), none] [] h' Q) → cd_W X m_Mod_ordering kc ks 128 [some (.ref 82), some (.int (nI i)), some (.int (nI l.length)), some (.int (nI f0)), some (.int (nI w0)), some (.int (nI k)), some (.int (nI a - 1))] [] h Q := by
  intro a
  induction a with
  | zero =>
    intro h ha F Z K Aa U e112 e113 hq
    have e113' : cd_i h 113 k = cd_op (sg_pp T n life now AC AU i q) := by rw [List.drop_zero] at e113; exact e113
    have K1 := hq h (cm_ch.rf _ _) e113'
    have u1 := U.1
    refine g_Mod_ordering_128 F ⟨fun _ => ⟨vp_in_nI hk3 (by decide), ?_⟩, fun t => absurd (by decide) t⟩
    rw [nI_clamp (by omega), e113', e112, nI_1]
    cases hpp : sg_pp T n life now AC AU i q with
    | some b =>
      rw [hpp] at K1
      simp only [Nat.add_zero] at K1
      have := sg_fp_lt AU 0 b hpp
      refine ⟨fun _ => ?_, fun z => absurd (Int32.not_lt.mp (cd_op_pos (by omega))) z⟩
      rw [nI_1]
      exact K1
    | none =>
      rw [hpp] at K1
      simp only at K1
      refine ⟨fun z => absurd z (by decide), fun _ => sp_Mod_lengthAt F Z hs ⟨_, rfl, F, ?_⟩⟩
      rw [show (2 : Int32) = nI 2 by decide, nI_add, nI_add, nI_1, nI_1, ← sg_sl_eq hs]
      exact K1
  | succ a ih =>
    intro h ha F Z K Aa U e112 e113 hq
    have u1 := U.1
    have hlt : a < AU.length := by omega
    have hu : AU[a]? = some AU[a] := List.getElem?_eq_getElem hlt
    have eD : sg_fp (sg_pq T n life now AC i q) (AU.drop a) a = if sg_pq T n life now AC i q AU[a] then some a else sg_fp (sg_pq T n life now AC i q) (AU.drop (a + 1)) (a + 1) := by
      rw [List.drop_eq_getElem_cons hlt, sg_fp]
    generalize AU[a] = u at *
    obtain ⟨d1, d2, d3, d4, d5, d6, d7, d8, d9, d10, d11⟩ := U.2.2.1 a u hu
    have stl := sg_st_le AC life now u
    have a1 := Aa.1
    have next : ∀ v : Int32, v = cd_op (sg_fp (sg_pq T n life now AC i q) (AU.drop a) a) → cd_W X m_Mod_ordering kc ks 128 [some (.ref 82), some (.int (nI i)), some (.int (nI l.length)), some (.int (nI f0)), some (.int (nI w0)), some (.int (nI k)), some (.int (nI a + (-1)))] [] (cd_si h 113 k v) Q := fun v hv => by
      have C1 : cm_ch (fun x j => x = 113 ∧ j = k) h (cd_si h 113 k v) := cm_ch.si ⟨rfl, rfl⟩
      have ei : ∀ x j, ¬ x = 113 → cd_i (cd_si h 113 k v) x j = cd_i h x j := fun x j hx => cd_ne hx h k v j
      rw [← Int32.sub_eq_add_neg]
      exact ih (cd_si h 113 k v) (by omega) (C1.ok F) (Z.of (fun x j hx => ei x j (by omega))) (K.of (fun j hj => ei 82 j (by decide))) (Aa.of (fun x j hx => ei x j (by omega))) (U.of (fun x j hx => ei x j (by omega))) (by rw [ei 112 k (by decide)]; exact e112) (by rw [cd_i_si, if_pos ⟨rfl, rfl⟩]; exact hv) (fun h' C' e' => hq h' (C1.tr C') e')
    have keep : sg_pq T n life now AC i q u = false → cd_W X m_Mod_ordering kc ks 128 [some (.ref 82), some (.int (nI i)), some (.int (nI l.length)), some (.int (nI f0)), some (.int (nI w0)), some (.int (nI k)), some (.int (nI a + (-1)))] [] (cd_si h 113 k (cd_i h 113 k)) Q := fun hf => next _ (by rw [e113, eD, hf]; rfl)
    rw [nI_pred]
    refine g_Mod_ordering_128 F ⟨fun t => absurd t (nI_pos (by omega)), fun _ => ⟨vp_in_nI (by omega) (by decide), ?_⟩⟩
    rw [nI_clamp (by omega : a < 2 ^ 31), nI_clamp (by omega : k < 2 ^ 31), d2, nI_eq (by omega) (by omega), e112]
    refine ⟨fun t => ⟨vp_in_nI hk3 (by decide), keep (by unfold sg_pq; rw [decide_eq_false t, Bool.false_and])⟩, fun t => ⟨vp_in_nI hk3 (by decide), ?_⟩⟩
    have hsp := sg_spB_iff (m := sg_nm u) hs
    refine sp_Mod_names F Z d3 (by omega) hs (fun hh => ⟨_, rfl, F, fun z => absurd z (by decide), fun _ => sp_Mod_state F K Aa U ⟨_, rfl, F, ?_⟩⟩) (fun hh => ⟨_, rfl, F, fun _ => keep ?_, fun z => absurd rfl z⟩)
    · have es : sg_sta AC life now AU (nI a) = nI (sg_st AC life now u) := by rw [sg_sta, sg_ix_nI (by omega), hu]
      have h2 : nI (sg_st AC life now u) = 2 ↔ sg_st AC life now u = 2 := by
        rw [show (2 : Int32) = nI 2 by decide, nI_eq (by omega) (by decide)]
      rw [es, h2]
      refine ⟨fun t2 => keep (by unfold sg_pq; rw [decide_eq_false t2, Bool.and_false, Bool.and_false]), fun t2 => next _ ?_⟩
      have : sg_pq T n life now AC i q u = true := by
        unfold sg_pq
        rw [decide_eq_true t, decide_eq_true t2, hsp.mpr hh]
        rfl
      rw [eD, this]
      rfl
    · have : sg_spB T n q (sg_nm u) = false := by
        cases hb : sg_spB T n q (sg_nm u) with
        | false => rfl
        | true => exact absurd (hsp.mp hb) hh
      unfold sg_pq
      rw [this, Bool.false_and, Bool.and_false]
end VMP
