def sg_spB (T : Nat → Nat) (n q : Nat) (m : Nat × (Nat → Nat)) : Bool := decide (tx_s T n q = some (q + m.1 + 2)) && (List.range m.1).all (fun j => decide (T (q + 1 + j) = m.2 j))
def sg_amB (T : Nat → Nat) (n : Nat) (nms : List (Nat × (Nat → Nat))) (l : List Nat) : Bool := decide (l.length = nms.length) && nms.all (fun m => l.any (fun q => sg_spB T n q m))
theorem sg_spB_iff {T : Nat → Nat} {n q c : Nat} {m : Nat × (Nat → Nat)} (hs : tx_s T n q = some c) : sg_spB T n q m = true ↔ (c = q + m.1 + 2 ∧ ∀ j, j < m.1 → T (q + 1 + j) = m.2 j) := by
  unfold sg_spB
  rw [Bool.and_eq_true, decide_eq_true_iff, List.all_eq_true, hs]
  refine ⟨fun ⟨a, b⟩ => ⟨Option.some.inj a, fun j hj => of_decide_eq_true (b j (List.mem_range.mpr hj))⟩, fun ⟨a, b⟩ => ⟨by rw [a], fun j hj => decide_eq_true (b j (List.mem_range.mp hj))⟩⟩
theorem sg_spB_sp {T : Nat → Nat} {n q c : Nat} {m : Nat × (Nat → Nat)} (hs : tx_s T n q = some c) (hN : ∀ j, j < m.1 → m.2 j ≠ 34 ∧ m.2 j ≠ 92) : sg_spB T n q m = true ↔ tx_sp T n (some q) m.2 m.1 := by
  rw [sg_spB_iff hs, tx_spell hN hs]
  have hp := tx_s_some hs
  refine ⟨fun ⟨a, b, d⟩ => ⟨q, rfl, ⟨hp.2.2.1, hp.2.2.2.1⟩, ⟨a, b⟩, d⟩, fun ⟨p, e, _, ⟨a, b⟩, d⟩ => ?_⟩
  cases e
  exact ⟨a, b, d⟩
theorem tx_Z_s {T : Nat → Nat} {n : Nat} : ∀ k p l, tx_Z T n k p = some l → ∀ q, q ∈ l → ∃ c, tx_s T n q = some c := by
  intro k
  induction k with
  | zero => intro p l h; cases h
  | succ k ih =>
    intro p l h q hq
    rw [tx_Z] at h
    by_cases c : p < n ∧ T p = 34
    · rw [if_pos c] at h
      cases hs : tx_s T n p with
      | none => rw [hs] at h; cases h
      | some d =>
        rw [hs] at h
        simp only at h
        by_cases e : d < n ∧ T d = 93
        · rw [if_pos e] at h
          cases h
          rw [List.mem_singleton] at hq
          rw [hq]
          exact ⟨d, hs⟩
        · rw [if_neg e] at h
          cases hz : tx_Z T n k (d + 1) with
          | none => rw [hz] at h; cases h
          | some l' =>
            rw [hz] at h
            cases h
            rw [List.mem_cons] at hq
            rcases hq with hq | hq
            · rw [hq]
              exact ⟨d, hs⟩
            · exact ih _ _ hz q hq
    · rw [if_neg c] at h
      cases h
theorem tx_z_s {T : Nat → Nat} {n : Nat} {o : Option Nat} {l : List Nat} (h : tx_z T n o = some l) : ∀ q, q ∈ l → ∃ c, tx_s T n q = some c := by
  intro q hq
  cases o with
  | none => cases h
  | some v =>
    rw [tx_z] at h
    by_cases c : v < n ∧ T v = 91
    · rw [if_pos c] at h
      by_cases e : v + 1 < n ∧ T (v + 1) = 93
      · rw [if_pos e] at h
        cases h
        cases hq
      · rw [if_neg e] at h
        exact tx_Z_s _ _ _ h q hq
    · rw [if_neg c] at h
      cases h
def sg_cnt : List sg_O → Nat
  | [] => 0
  | o :: l => sg_cnt l + (if (sgo_cert o).isSome then 1 else 0)
def sg_I (AC : List sg_A) (AU : List sg_U) (OR : List sg_O) (CE : List sg_C) : Prop := (AC.map Prod.fst).Nodup ∧ (∀ u, u ∈ AU → ∀ j, j < sgu_len u → sgu_N u j ≠ 34 ∧ sgu_N u j ≠ 92) ∧ CE.length = sg_cnt OR
theorem sg_cnt_le : ∀ l : List sg_O, sg_cnt l ≤ l.length
  | [] => Nat.le_refl _
  | o :: l => by
    have := sg_cnt_le l
    rw [sg_cnt, List.length_cons]
    split <;> omega
theorem sg_cnt_lt : ∀ (l : List sg_O) (a : Nat) (o : sg_O), l[a]? = some o → sgo_cert o = none → sg_cnt l < l.length
  | [], a, o, h, _ => by cases h
  | p :: l, 0, o, h, e => by
    cases h
    have := sg_cnt_le l
    rw [sg_cnt, e, List.length_cons]
    show sg_cnt l + 0 < l.length + 1
    omega
  | p :: l, a + 1, o, h, e => by
    have := sg_cnt_lt l a o h e
    rw [sg_cnt, List.length_cons]
    split <;> omega
theorem sg_cnt_set : ∀ (l : List sg_O) (a : Nat) (o o' : sg_O), l[a]? = some o → sgo_cert o = none → (sgo_cert o').isSome = true → sg_cnt (l.set a o') = sg_cnt l + 1
  | [], a, o, o', h, _, _ => by cases h
  | p :: l, 0, o, o', h, e, e' => by
    cases h
    rw [List.set_cons_zero, sg_cnt, sg_cnt, e, e']
    rfl
  | p :: l, a + 1, o, o', h, e, e' => by
    have := sg_cnt_set l a o o' h e e'
    rw [List.set_cons_succ, sg_cnt, sg_cnt, this]
    omega
def sg_crd (s : Nat) (o : sg_O) : sg_O := (sgo_own o, sgo_made o, sgo_parts o, some s)
def sg_fin (T : Nat → Nat) (n life now : Nat) (AC : List sg_A) (AU : List sg_U) (OR : List sg_O) (CE : List sg_C) (us : Nat) (ct : Option Nat) (snd : Option Nat) : sg_Rs := match sg_nf T n [111, 114, 100, 101, 114] (some 0), sg_nf T n [107, 101, 121] (sg_fl T n [99, 115, 114] (some 0)), tx_z T n (sg_fl T n [110, 97, 109, 101, 115] (sg_fl T n [99, 115, 114] (some 0))) with
  | some a, some key, some l => match snd with
    | none => sg_same0 (-4) AC AU OR CE us ct
    | some i => match OR[a]? with
      | none => sg_same0 (-4) AC AU OR CE us ct
      | some o => if sgo_own o = i ∧ sg_os AC life now AU o = 1 ∧ 3 ≤ key ∧ sg_amB T n (sg_nms AU OR a) l = true then (sg_fr (sg_fate us ct 5) (nI CE.length), AC, sg_fa (sg_fate us ct 5) AU, if sg_fc (sg_fate us ct 5) then OR.set a (sg_crd CE.length o) else OR, if sg_fc (sg_fate us ct 5) then CE ++ [(a, key, now, sg_sea (sg_nms AU OR a) CE.length now key, none)] else CE, sg_fu (sg_fate us ct 5) us 5, sg_ft (sg_fate us ct 5) ct, sg_fx (sg_fate us ct 5)) else sg_same0 (-4) AC AU OR CE us ct
  | _, _, _ => sg_same0 (-1) AC AU OR CE us ct
theorem sg_os1 {AC : List sg_A} {life now : Nat} {AU : List sg_U} {o : sg_O} (h : sg_os AC life now AU o = 1) : sgo_cert o = none := by
  unfold sg_os at h
  cases hc : sgo_cert o with
  | none => rfl
  | some c => rw [hc] at h; cases h
section VFN
variable {X : cd_E} {kc ks : Nat} {h h' : cd_H} {Q : Option Value → cd_H → Prop} {A : Nat → Prop} {T : Nat → Nat} {n life now cr gv us w : Nat} {sp : Nat → Bool} {ct : Option Nat} {NW : Nat → Option Nat} {AC : List sg_A} {AU AU' : List sg_U} {OR : List sg_O} {CE : List sg_C} {accs auts ords cers : List Nat} {b1 c1 b2 c2 b3 c3 b4 c4 : Nat}
theorem cc_cn.mk (U : cc_aut h now accs AU auts b2 c2) (O : cc_ord h now accs auts OR ords b3 c3) {a x : Nat} {o : sg_O} (hx : ords[a]? = some x) (ho : OR[a]? = some o) : cc_cn h x (sg_nms AU OR a) := by
  have u3 := U.2.2.1
  obtain ⟨⟨d1, d2⟩, d3, d4, d5, d6, d7, ⟨pl, pb, pcap, d8, d8b, d8c⟩, d9⟩ := O.2.2.2.2 a x o hx ho
  have en : sg_nms AU OR a = (sgo_parts o).map (sg_nmU AU) := by rw [sg_nms, ho]
  rw [en]
  refine ⟨d2, by rw [List.length_map]; exact d6, pl, _, pb, pcap, d8, d8c, by rw [sg_pc, List.length_map, List.length_map], fun k q hq => ?_⟩
  rw [List.getElem?_map] at hq
  cases hp : (sgo_parts o)[k]? with
  | none => rw [hp] at hq; cases hq
  | some p =>
    rw [hp] at hq
    cases hq
    have hpl := d7 p (List.mem_of_getElem? hp)
    have ey : auts[p]? = some auts[p] := List.getElem?_eq_getElem hpl
    have eu : AU[p]? = some (AU[p]'(by omega)) := List.getElem?_eq_getElem (by omega)
    obtain ⟨⟨f1, f2, f3⟩, f4, ⟨s, sb, f6, f6b, f6c, f6d, f6e⟩, f7, f8, f9, f10, f11, f12, f16, f17⟩ := U.2.2.2.2 p _ _ ey eu
    refine ⟨auts[p], s, ?_, f2, f6, ?_⟩
    · rw [sg_pc, List.getElem?_map, hp]
      show some (auts.getD p 0) = _
      rw [List.getD_eq_getElem?_getD, ey]
      rfl
    · rw [sg_nmU, eu]
      exact ⟨f6b, f17.2⟩
theorem sp_Desk_isAmong (B : cc_B h T n life now NW) {l : List Nat} (st : ∀ i q, l[i]? = some q → cd_i h 73 i = nI q) (hl : l.length ≤ 3) (hls : ∀ q, q ∈ l → ∃ c, tx_s T n q = some c) {s : Nat} {m : Nat × (Nat → Nat)} (S : cc_str h s m.2 m.1) (hm : m.1 ≤ 12) (hN : ∀ j, j < m.1 → m.2 j ≠ 34 ∧ m.2 j ≠ 92) (h1 : l.any (fun q => sg_spB T n q m) = true → Q (some (.int 1)) h) (h0 : l.any (fun q => sg_spB T n q m) = false → Q (some (.int 0)) h) : ∀ r j, r + j = l.length → l.any (fun q => sg_spB T n q m) = (l.drop j).any (fun q => sg_spB T n q m) → cd_W X m_Desk_isAmongStrings kc ks 2 [some (.ref 64), some (.ref s), some (.int (nI l.length)), some (.int (nI j))] [] h Q := by
  obtain ⟨F, hn, Ft, Cs, Ky, Kk, K, W, Z⟩ := B
  have z1 := Z.1
  intro r
  induction r with
  | zero =>
    intro j hj e
    rw [List.drop_of_length_le (by omega)] at e
    refine g_Desk_isAmongStrings_2 F ?_
    rw [nI_leI (by omega) (by omega)]
    exact ⟨fun _ => h0 e, fun t => by omega⟩
  | succ r ih =>
    intro j hj e
    have hlt : j < l.length := by omega
    have el : l[j]? = some l[j] := List.getElem?_eq_getElem hlt
    obtain ⟨c, hs⟩ := hls _ (List.getElem_mem hlt)
    have hp := tx_s_some hs
    rw [List.drop_eq_getElem_cons hlt, List.any_cons] at e
    refine g_Desk_isAmongStrings_2 F ?_
    rw [nI_leI (by omega) (by omega), nI_leI (by decide) (by omega), nI_clamp (by omega), st j _ el]
    refine ⟨fun t => by omega, fun _ => ⟨fun t => by omega, fun _ => ⟨vp_in_nI (by omega) (by decide), ?_⟩⟩⟩
    show cd_W X m_Not_spells 0 0 0 [some (.ref 71), some (.int (cd_op (some l[j]))), some (.ref s), none, none] [] h _
    refine sp_Not_spells F Z S (fun p e => by cases e; omega) (by omega) (fun hh => ⟨_, rfl, F, fun z => absurd z (by decide), fun _ => ?_⟩) (fun hh => ⟨_, rfl, F, fun _ => ?_, fun z => absurd rfl z⟩)
    · rw [(sg_spB_sp hs hN).mpr hh, Bool.true_or] at e
      exact h1 e
    · have : sg_spB T n l[j] m = false := by
        cases hb : sg_spB T n l[j] m with
        | false => rfl
        | true => exact absurd ((sg_spB_sp hs hN).mp hb) hh
      rw [this, Bool.false_or] at e
      rw [nI_1]
      exact ih (j + 1) (by omega) e
theorem sp_Desk_areNamesOf (B : cc_B h T n life now NW) {l : List Nat} (st : ∀ i q, l[i]? = some q → cd_i h 73 i = nI q) (hl : l.length < 100) (hls : ∀ q, q ∈ l → ∃ c, tx_s T n q = some c) {x : Nat} {nms : List (Nat × (Nat → Nat))} (N : cc_cn h x nms) (hN : ∀ m, m ∈ nms → ∀ j, j < m.1 → m.2 j ≠ 34 ∧ m.2 j ≠ 92) (h1 : sg_amB T n nms l = true → Q (some (.int 1)) h) (h0 : sg_amB T n nms l = false → Q (some (.int 0)) h) : cd_W X m_Desk_areNamesOf kc ks 0 [some (.ref 64), some (.ref x), some (.int (nI l.length)), none] [] h Q := by
  obtain ⟨n1, n2, pl, cells, pb, pcap, n3, n4, n5, n6⟩ := N
  have F := B.1
  refine g_Desk_areNamesOf F ⟨n1, pl, n3, n4.2.1, sp_AL_size n4 ⟨_, rfl, F, ?_⟩⟩
  rw [nI_eq (by omega) (by omega), n5]
  unfold sg_amB at h1 h0
  refine ⟨fun t => ?_, fun t => h0 (by rw [decide_eq_false t]; rfl)⟩
  rw [decide_eq_true t, Bool.true_and] at h1 h0
  have loop : ∀ r j, r + j = nms.length → nms.all (fun m => l.any (fun q => sg_spB T n q m)) = (nms.drop j).all (fun m => l.any (fun q => sg_spB T n q m)) → cd_W X m_Desk_areNamesOf kc ks 15 [some (.ref 64), some (.ref x), some (.int (nI l.length)), some (.int (nI j))] [] h Q := by
    intro r
    induction r with
    | zero =>
      intro j hj e
      rw [List.drop_of_length_le (by omega)] at e
      refine g_Desk_areNamesOf_15 F ⟨n1, pl, n3, n4.2.1, sp_AL_size n4 ⟨_, rfl, F, ?_⟩⟩
      rw [nI_leI (by omega) (by omega)]
      exact ⟨fun _ => h1 e, fun t => by omega⟩
    | succ r ih =>
      intro j hj e
      have hlt : j < nms.length := by omega
      have el : nms[j]? = some nms[j] := List.getElem?_eq_getElem hlt
      obtain ⟨y, s, d1, d2, d3, d4, d5⟩ := n6 j _ el
      rw [List.drop_eq_getElem_cons hlt, List.all_cons] at e
      refine g_Desk_areNamesOf_15 F ⟨n1, pl, n3, n4.2.1, sp_AL_size n4 ⟨_, rfl, F, ?_⟩⟩
      rw [nI_leI (by omega) (by omega)]
      refine ⟨fun t => by omega, fun _ => ⟨n1, pl, n3, n4.2.1, sp_AL_get n4 d1 ⟨some y, rfl, F, y, rfl, d2, s, d3, g_Desk_isAmongStrings F ?_⟩⟩⟩
      show cd_W X m_Desk_isAmongStrings 0 0 2 [some (.ref 64), some (.ref s), some (.int (nI l.length)), some (.int (nI 0))] [] h _
      refine sp_Desk_isAmong B st (by omega) hls d4 d5 (hN _ (List.getElem_mem hlt)) (fun hh => ⟨_, rfl, F, fun _ => ?_, fun z => absurd z (by decide)⟩) (fun hh => ⟨_, rfl, F, fun z => absurd rfl z, fun _ => ?_⟩) l.length 0 (by omega) (by rw [List.drop_zero])
      · rw [hh, Bool.true_and] at e
        rw [nI_1]
        exact ih (j + 1) (by omega) e
      · rw [hh, Bool.false_and] at e
        exact h0 e
  exact loop nms.length 0 (by omega) (by rw [List.drop_zero])
end VFN
