def sg_sl (T : Nat → Nat) (n q : Nat) : Nat := (tx_s T n q).getD 0 - q - 2
theorem sg_sl_eq {T : Nat → Nat} {n q c : Nat} (h : tx_s T n q = some c) : sg_sl T n q = c - q - 2 := by
  rw [sg_sl, h]
  rfl
def sg_nok (T : Nat → Nat) (n : Nat) (l : List Nat) : Prop := (∀ (k q : Nat), l[k]? = some q → tx_nm T q (sg_sl T n q)) ∧ ∀ (j k a b : Nat), j < k → l[j]? = some a → l[k]? = some b → ¬ tx_sm T a b (sg_sl T n a) (sg_sl T n b)
theorem tx_sm_comm {T : Nat → Nat} {a b m m' : Nat} (h : tx_sm T a b m m') : tx_sm T b a m' m := ⟨h.1.symm, fun j hj => (h.2 j (by have := h.1; omega)).symm⟩
def sg_pq (T : Nat → Nat) (n life now : Nat) (AC : List sg_A) (i q : Nat) (u : sg_U) : Bool := decide (sgu_own u = i) && (sg_spB T n q (sg_nm u) && decide (sg_st AC life now u = 2))
def sg_fp (P : sg_U → Bool) : List sg_U → Nat → Option Nat
  | [], _ => none
  | u :: l, j => if P u then some j else sg_fp P l (j + 1)
theorem sg_fp_app {P : sg_U → Bool} {m : List sg_U} (hm : ∀ u, u ∈ m → P u = false) : ∀ (l : List sg_U) (j : Nat), sg_fp P (l ++ m) j = sg_fp P l j
  | [], j => by
    rw [List.nil_append]
    show sg_fp P m j = none
    have : ∀ (m : List sg_U) (j : Nat), (∀ u, u ∈ m → P u = false) → sg_fp P m j = none := by
      intro m
      induction m with
      | nil => intro j _; rfl
      | cons u m ih =>
        intro j h
        rw [sg_fp, h u (List.mem_cons_self ..)]
        exact ih (j + 1) (fun v hv => h v (List.mem_cons_of_mem _ hv))
    exact this m j hm
  | u :: l, j => by
    rw [List.cons_append, sg_fp, sg_fp, sg_fp_app hm l (j + 1)]
theorem sg_fp_map {P : sg_U → Bool} (hP : ∀ u, P (sg_cr u) = P u) : ∀ (l : List sg_U) (j : Nat), sg_fp P (l.map sg_cr) j = sg_fp P l j
  | [], _ => rfl
  | u :: l, j => by rw [List.map_cons, sg_fp, sg_fp, hP u, sg_fp_map hP l (j + 1)]
theorem sg_fp_lt {P : sg_U → Bool} : ∀ (l : List sg_U) (j a : Nat), sg_fp P l j = some a → j ≤ a ∧ a < j + l.length
  | [], _, _, h => by cases h
  | u :: l, j, a, h => by
    rw [sg_fp] at h
    by_cases c : P u = true
    · rw [if_pos c] at h
      cases h
      rw [List.length_cons]
      omega
    · rw [if_neg c] at h
      have := sg_fp_lt l (j + 1) a h
      rw [List.length_cons]
      omega
theorem sg_cr_own (u : sg_U) : sgu_own (sg_cr u) = sgu_own u := rfl
theorem sg_st2 (AC : List sg_A) (life now : Nat) (u : sg_U) : (sg_st AC life now u = 2) ↔ (¬ (sg_cl AC (sgu_own u) = true ∨ sgu_dec u = 2) ∧ sgu_dec u = 1 ∧ ¬ life ≤ now - sgu_since u) := by
  unfold sg_st
  by_cases a : sg_cl AC (sgu_own u) = true ∨ sgu_dec u = 2
  · rw [if_pos a]
    exact ⟨fun z => (by cases z), fun z => absurd a z.1⟩
  · rw [if_neg a]
    by_cases c : sgu_dec u = 1
    · have e : (if sgu_dec u = 1 then sgu_since u else sgu_made u) = sgu_since u := if_pos c
      rw [e, if_pos c]
      by_cases b : life ≤ now - sgu_since u
      · rw [if_pos b]
        exact ⟨fun z => (by cases z), fun z => absurd b z.2.2⟩
      · rw [if_neg b]
        exact ⟨fun _ => ⟨a, c, b⟩, fun _ => rfl⟩
    · have e : (if sgu_dec u = 1 then sgu_since u else sgu_made u) = sgu_made u := if_neg c
      rw [e, if_neg c]
      refine ⟨fun z => ?_, fun z => absurd z.2.1 c⟩
      by_cases b : life ≤ now - sgu_made u
      · rw [if_pos b] at z
        cases z
      · rw [if_neg b] at z
        by_cases d : 0 < sgu_tri u
        · rw [if_pos d] at z
          cases z
        · rw [if_neg d] at z
          cases z
theorem sg_st_cr2 (AC : List sg_A) (life now : Nat) (u : sg_U) : (sg_st AC life now (sg_cr u) = 2) ↔ (sg_st AC life now u = 2) := by
  rw [sg_st2, sg_st2]
  exact Iff.rfl
theorem sg_pq_cr (T : Nat → Nat) (n life now : Nat) (AC : List sg_A) (i q : Nat) (u : sg_U) : sg_pq T n life now AC i q (sg_cr u) = sg_pq T n life now AC i q u := by
  unfold sg_pq
  have : decide (sg_st AC life now (sg_cr u) = 2) = decide (sg_st AC life now u = 2) := decide_eq_decide.mpr (sg_st_cr2 AC life now u)
  rw [this]
  rfl
def sg_new (T : Nat → Nat) (n i now q : Nat) : sg_U := (i, (fun u => T (q + 1 + u)), sg_sl T n q, now, 0, now, 0)
theorem sg_pq_new (T : Nat → Nat) (n life now : Nat) (AC : List sg_A) (i q i' q' : Nat) : sg_pq T n life now AC i q (sg_new T n i' now q') = false := by
  unfold sg_pq
  have : ¬ sg_st AC life now (sg_new T n i' now q') = 2 := fun z => by
    have := ((sg_st2 AC life now (sg_new T n i' now q')).mp z).2.1
    cases this
  rw [decide_eq_false this, Bool.and_false, Bool.and_false]
def sg_mk (P : Nat → Option Nat) (T : Nat → Nat) (n i now : Nat) : List Nat → List sg_U → List sg_U × List Nat
  | [], AU => (AU, [])
  | q :: l, AU => match P q with
    | some a => ((sg_mk P T n i now l AU).1, a :: (sg_mk P T n i now l AU).2)
    | none => ((sg_mk P T n i now l (AU ++ [sg_new T n i now q])).1, AU.length :: (sg_mk P T n i now l (AU ++ [sg_new T n i now q])).2)
def sg_wds (P : Nat → Option Nat) (T : Nat → Nat) (n : Nat) : List Nat → Nat
  | [] => 0
  | q :: l => (match P q with
    | some _ => 1
    | none => 2 + sg_sl T n q) + sg_wds P T n l
def sg_frs (P : Nat → Option Nat) : List Nat → Nat
  | [] => 0
  | q :: l => (match P q with
    | some _ => 0
    | none => 1) + sg_frs P l
def sg_pp (T : Nat → Nat) (n life now : Nat) (AC : List sg_A) (AU : List sg_U) (i q : Nat) : Option Nat := sg_fp (sg_pq T n life now AC i q) AU 0
def sg_plc (T : Nat → Nat) (n life now : Nat) (ok : Bool) (AC : List sg_A) (AU : List sg_U) (OR : List sg_O) (CE : List sg_C) (us : Nat) (ct : Option Nat) (snd : Option Nat) : sg_Rs := match tx_z T n (sg_fl T n [110, 97, 109, 101, 115] (some 0)) with
  | none => sg_same0 (-1) AC AU OR CE us ct
  | some l => if ok = false then sg_same0 (-1) AC AU OR CE us ct else match snd with
    | none => sg_same0 (-4) AC AU OR CE us ct
    | some i => if 12 ≤ OR.length ∨ 24 < AU.length + sg_frs (sg_pp T n life now AC AU i) l then sg_same0 (-5) AC AU OR CE us ct else
      (sg_fr (sg_fate us ct (5 + sg_wds (sg_pp T n life now AC AU i) T n l)) (nI OR.length), AC,
        (if sg_fc (sg_fate us ct (5 + sg_wds (sg_pp T n life now AC AU i) T n l)) then (sg_mk (sg_pp T n life now AC AU i) T n i now l (sg_fa (sg_fate us ct (5 + sg_wds (sg_pp T n life now AC AU i) T n l)) AU)).1 else sg_fa (sg_fate us ct (5 + sg_wds (sg_pp T n life now AC AU i) T n l)) AU),
        (if sg_fc (sg_fate us ct (5 + sg_wds (sg_pp T n life now AC AU i) T n l)) then OR ++ [(i, now, (sg_mk (sg_pp T n life now AC AU i) T n i now l (sg_fa (sg_fate us ct (5 + sg_wds (sg_pp T n life now AC AU i) T n l)) AU)).2, none)] else OR), CE,
        sg_fu (sg_fate us ct (5 + sg_wds (sg_pp T n life now AC AU i) T n l)) us (5 + sg_wds (sg_pp T n life now AC AU i) T n l), sg_ft (sg_fate us ct (5 + sg_wds (sg_pp T n life now AC AU i) T n l)) ct, sg_fx (sg_fate us ct (5 + sg_wds (sg_pp T n life now AC AU i) T n l)))
section VON
variable {X : cd_E} {kc ks : Nat} {h h' : cd_H} {Q : Option Value → cd_H → Prop} {A : Nat → Prop} {T : Nat → Nat} {n life now cr gv us w : Nat} {sp : Nat → Bool} {ct : Option Nat} {NW : Nat → Option Nat} {AC : List sg_A} {AU AU' : List sg_U} {OR : List sg_O} {CE : List sg_C} {accs auts ords cers : List Nat} {b1 c1 b2 c2 b3 c3 b4 c4 : Nat}
theorem sp_Desk_areNames (F : cc_ok h) (Z : cc_txt h T n) {l : List Nat} (st : ∀ i q, l[i]? = some q → cd_i h 73 i = nI q) (hll : l.length < 100) (hls : ∀ q, q ∈ l → ∃ c, tx_s T n q = some c) (h1 : (1 ≤ l.length ∧ l.length ≤ 3) ∧ sg_nok T n l → Q (some (.int 1)) h) (h0 : ¬ ((1 ≤ l.length ∧ l.length ≤ 3) ∧ sg_nok T n l) → Q (some (.int 0)) h) : cd_W X m_Desk_areNames kc ks 0 [some (.ref 64), some (.int (nI l.length)), none, none] [] h Q := by
  refine g_Desk_areNames F ?_
  rw [show (1 : Int32) = nI 1 by decide, nI_ltI (by omega) (by decide), show (3 : Int32) = nI 3 by decide, nI_leI (by omega) (by decide)]
  refine ⟨fun t => h0 (fun z => by omega), fun t => ⟨fun t2 => ?_, fun t2 => h0 (fun z => by omega)⟩⟩
  have loop : ∀ r i, r + i = l.length → (∀ k q, k < i → l[k]? = some q → tx_nm T q (sg_sl T n q)) → (∀ j k a b, k < i → j < k → l[j]? = some a → l[k]? = some b → ¬ tx_sm T a b (sg_sl T n a) (sg_sl T n b)) → cd_W X m_Desk_areNames kc ks 14 [some (.ref 64), some (.int (nI l.length)), some (.int (nI i)), none] [] h Q := by
    intro r
    induction r with
    | zero =>
      intro i hi p1 p2
      refine g_Desk_areNames_14 F ?_
      rw [nI_leI (by omega) (by omega)]
      refine ⟨fun _ => h1 ⟨by omega, fun k q hq => p1 k q (by have := (List.getElem?_eq_some_iff.mp hq).1; omega) hq, fun j k a b hj ha hb => p2 j k a b (by have := (List.getElem?_eq_some_iff.mp hb).1; omega) hj ha hb⟩, fun t => by omega⟩
    | succ r ih =>
      intro i hi p1 p2
      have hlt : i < l.length := by omega
      have el : l[i]? = some l[i] := List.getElem?_eq_getElem hlt
      obtain ⟨c, hs⟩ := hls _ (List.getElem_mem hlt)
      refine g_Desk_areNames_14 F ?_
      rw [nI_leI (by omega) (by omega), nI_clamp (by omega), st i _ el]
      refine ⟨fun t => by omega, fun _ => ⟨vp_in_nI (by omega) (by decide), sp_Not_isName F Z hs (fun hn => ⟨_, rfl, F, fun _ => ?_, fun z => absurd z (by decide)⟩) (fun hn => ⟨_, rfl, F, fun z => absurd rfl z, fun _ => h0 (fun z => hn ?_)⟩)⟩⟩
      · have inner : ∀ r' j, r' + j = i → (∀ j' a, j' < j → l[j']? = some a → ¬ tx_sm T a l[i] (sg_sl T n a) (sg_sl T n l[i])) → cd_W X m_Desk_areNames kc ks 39 [some (.ref 64), some (.int (nI l.length)), some (.int (nI i)), some (.int (nI j))] [] h Q := by
          intro r'
          induction r' with
          | zero =>
            intro j hj p3
            refine g_Desk_areNames_39 F ?_
            rw [nI_leI (by omega) (by omega), nI_1]
            refine ⟨fun _ => ih (i + 1) (by omega) (fun k q hk hq => ?_) (fun j' k a b hk hj' ha hb => ?_), fun t => by omega⟩
            · by_cases e : k = i
              · rw [e, el] at hq
                cases hq
                rw [sg_sl_eq hs]
                exact hn
              · exact p1 k q (by omega) hq
            · by_cases e : k = i
              · rw [e, el] at hb
                cases hb
                exact p3 j' a (by omega) ha
              · exact p2 j' k a b (by omega) hj' ha hb
          | succ r' ih' =>
            intro j hj p3
            have hjl : j < l.length := by omega
            have ej : l[j]? = some l[j] := List.getElem?_eq_getElem hjl
            obtain ⟨d, hd⟩ := hls _ (List.getElem_mem hjl)
            refine g_Desk_areNames_39 F ?_
            rw [nI_leI (by omega) (by omega), nI_1, nI_1, nI_clamp (by omega), nI_clamp (by omega), st i _ el, st j _ ej]
            refine ⟨fun t => by omega, fun _ => ⟨vp_in_nI (by omega) (by decide), vp_in_nI (by omega) (by decide), sp_Not_areSame F Z hs hd (fun hh => ⟨_, rfl, F, fun z => absurd z (by decide), fun _ => h0 (fun z => ?_)⟩) (fun hh => ⟨_, rfl, F, fun _ => ?_, fun z => absurd rfl z⟩)⟩⟩
            · refine z.2.2 j i _ _ (by omega) ej el ?_
              rw [sg_sl_eq hs, sg_sl_eq hd]
              exact tx_sm_comm hh
            · refine ih' (j + 1) (by omega) (fun j' a hj' ha => ?_)
              by_cases e : j' = j
              · rw [e, ej] at ha
                cases ha
                intro z
                rw [sg_sl_eq hs, sg_sl_eq hd] at z
                exact hh (tx_sm_comm z)
              · exact p3 j' a (by omega) ha
        exact inner i 0 (by omega) (fun j' a hj' => by omega)
      · have := z.2.1 i _ el
        rw [sg_sl_eq hs] at this
        exact this
  exact loop l.length 0 (by omega) (fun k q hk => by omega) (fun j k a b hk => by omega)
theorem sp_Desk_provedPart_2 (F : cc_ok h) (Z : cc_txt h T n) (K : cc_clk h life now) (Aa : cc_acc h AC accs b1 c1) (U : cc_aut h now accs AU auts b2 c2) (hN : ∀ u, u ∈ AU → ∀ j, j < sgu_len u → sgu_N u j ≠ 34 ∧ sgu_N u j ≠ 92) {i z q c : Nat} (hz : accs[i]? = some z) (hs : tx_s T n q = some c) (hq : Q (some (va_rf ((sg_pp T n life now AC AU i q).bind (fun a => auts[a]?)))) h) : ∀ r j, r + j = AU.length → sg_pp T n life now AC AU i q = sg_fp (sg_pq T n life now AC i q) (AU.drop j) j → cd_W X m_Desk_provedPart kc ks 2 [some (.ref 64), some (.ref z), some (.int (nI q)), some (.int (nI j)), none] [] h Q := by
  have u1 := U.1
  have u3 := U.2.2.1
  have z1 := Z.1
  have hp := tx_s_some hs
  intro r
  induction r with
  | zero =>
    intro j hj e
    rw [List.drop_of_length_le (by omega), sg_fp] at e
    rw [e] at hq
    refine g_Desk_provedPart_2 F (sp_AL_size U.2.1 ⟨_, rfl, F, ?_⟩)
    rw [nI_leI (by omega) (by omega)]
    exact ⟨fun _ => hq, fun t => by omega⟩
  | succ r ih =>
    intro j hj e
    have hlt : j < AU.length := by omega
    have hu : AU[j]? = some AU[j] := List.getElem?_eq_getElem hlt
    have hy : auts[j]? = some (auts[j]'(by omega)) := List.getElem?_eq_getElem (by omega)
    have humem := List.getElem_mem hlt
    rw [List.drop_eq_getElem_cons hlt, sg_fp] at e
    generalize AU[j] = u at *
    generalize auts[j]'(by omega) = y at *
    obtain ⟨⟨d1, d2, d3⟩, ⟨z', d4, d5⟩, ⟨s, sb, d6, d6b, d6c, d6d, d6e⟩, d7, d8, d9, d10, d11, d12, d16, d17⟩ := U.2.2.2.2 j y u hy hu
    have hz' := (Aa.mem (List.mem_of_getElem? d4)).2
    have stl := sg_st_le AC life now u
    have own : some z' = some z ↔ sgu_own u = i := by
      refine ⟨fun e => ?_, fun e => ?_⟩
      · cases e
        exact sg_inj Aa.2.2.2.1 d4 hz
      · rw [e, hz] at d4
        exact d4.symm
    have next : sg_pq T n life now AC i q u = false → cd_W X m_Desk_provedPart kc ks 2 [some (.ref 64), some (.ref z), some (.int (nI q)), some (.int (nI (j + 1))), none] [] h Q := fun hf => by
      rw [hf] at e
      exact ih (j + 1) (by omega) e
    refine g_Desk_provedPart_2 F (sp_AL_size U.2.1 ⟨_, rfl, F, ?_⟩)
    rw [nI_leI (by omega) (by omega), nI_1]
    refine ⟨fun t => by omega, fun _ => sp_AL_get U.2.1 hy ⟨some y, rfl, F, y, rfl, d2, ?_⟩⟩
    rw [d5, own]
    refine ⟨fun p q e1 e2 => Or.inr (Or.inl (by cases e1; omega)), fun t1 => next (by unfold sg_pq; rw [decide_eq_false t1, Bool.false_and]), fun t1 => ⟨s, d6, ?_⟩⟩
    show cd_W X m_Not_spells 0 0 0 [some (.ref 71), some (.int (cd_op (some q))), some (.ref s), none, none] [] h _
    have hsp := sg_spB_sp (m := sg_nm u) hs (hN u humem)
    refine sp_Not_spells F Z d6b (fun p e => by cases e; omega) (by omega) (fun hh => ⟨_, rfl, F, fun z => absurd z (by decide), fun _ => sp_Desk_authorizationState F K Aa U hy hu ⟨_, rfl, F, ?_⟩⟩) (fun hh => ⟨_, rfl, F, fun _ => next ?_, fun z => absurd rfl z⟩)
    · have h2 : nI (sg_st AC life now u) = 2 ↔ sg_st AC life now u = 2 := by
        rw [show (2 : Int32) = nI 2 by decide, nI_eq (by omega) (by decide)]
      rw [h2]
      refine ⟨fun t2 => next (by unfold sg_pq; rw [decide_eq_false t2, Bool.and_false, Bool.and_false]), fun t2 => ?_⟩
      have : sg_pq T n life now AC i q u = true := by
        unfold sg_pq
        rw [decide_eq_true t1, decide_eq_true t2, hsp.mpr hh]
        rfl
      rw [this] at e
      rw [e] at hq
      have hq2 : Q (some (va_rf auts[j]?)) h := hq
      rw [hy] at hq2
      exact hq2
    · have : sg_spB T n q (sg_nm u) = false := by
        cases hb : sg_spB T n q (sg_nm u) with
        | false => rfl
        | true => exact absurd (hsp.mp hb) hh
      unfold sg_pq
      rw [this, Bool.false_and, Bool.and_false]
theorem sp_Desk_provedPart (F : cc_ok h) (Z : cc_txt h T n) (K : cc_clk h life now) (Aa : cc_acc h AC accs b1 c1) (U : cc_aut h now accs AU auts b2 c2) (hN : ∀ u, u ∈ AU → ∀ j, j < sgu_len u → sgu_N u j ≠ 34 ∧ sgu_N u j ≠ 92) {i z q c : Nat} (hz : accs[i]? = some z) (hs : tx_s T n q = some c) (hq : Q (some (va_rf ((sg_pp T n life now AC AU i q).bind (fun a => auts[a]?)))) h) : cd_W X m_Desk_provedPart kc ks 0 [some (.ref 64), some (.ref z), some (.int (nI q)), none, none] [] h Q :=
  g_Desk_provedPart F (sp_Desk_provedPart_2 F Z K Aa U hN hz hs hq AU.length 0 (by omega) (by rw [List.drop_zero]; rfl))
theorem sp_Desk_placeOf (F : cc_ok h) (U : cc_aut h now accs AU auts b2 c2) {s : Nat} {v : sg_U} (S : cc_str h s (sgu_N v) (sgu_len v)) (hq : Q (some (.int (nI (sg_pl AU v)))) h) : cd_W X m_Desk_placeOf kc ks 0 [some (.ref 64), some (.ref s), none] [] h Q := by
  have u1 := U.1
  have u3 := U.2.2.1
  have loop : ∀ r j, r + j = AU.length → sg_pl AU v = (AU.drop j).findIdx (fun u => sg_same u v) + j → cd_W X m_Desk_placeOf kc ks 2 [some (.ref 64), some (.ref s), some (.int (nI j))] [] h Q := by
    intro r
    induction r with
    | zero =>
      intro j hj e
      rw [List.drop_of_length_le (by omega), List.findIdx_nil] at e
      refine g_Desk_placeOf_2 F (sp_AL_size U.2.1 ⟨_, rfl, F, ?_⟩)
      rw [nI_leI (by omega) (by omega)]
      refine ⟨fun _ => sp_AL_size U.2.1 ⟨_, rfl, F, ?_⟩, fun t => by omega⟩
      rw [e] at hq
      rw [show auts.length = 0 + j by omega]
      exact hq
    | succ r ih =>
      intro j hj e
      have hlt : j < AU.length := by omega
      have hu : AU[j]? = some AU[j] := List.getElem?_eq_getElem hlt
      have hy : auts[j]? = some (auts[j]'(by omega)) := List.getElem?_eq_getElem (by omega)
      rw [List.drop_eq_getElem_cons hlt, List.findIdx_cons] at e
      generalize AU[j] = u at *
      generalize auts[j]'(by omega) = y at *
      obtain ⟨⟨d1, d2, d3⟩, d4, ⟨t, sb, d6, d6b, d6c, d6d, d6e⟩, d7⟩ := U.2.2.2.2 j y u hy hu
      refine g_Desk_placeOf_2 F (sp_AL_size U.2.1 ⟨_, rfl, F, ?_⟩)
      rw [nI_leI (by omega) (by omega), nI_1]
      refine ⟨fun t => by omega, fun _ => sp_AL_get U.2.1 hy ⟨some y, rfl, F, y, rfl, d2, t, d6, d6b.1, sp_Str_equals d6b S (by omega) (fun hh => ⟨_, rfl, F, fun z => absurd z (by decide), fun _ => ?_⟩) (fun hh => ⟨_, rfl, F, fun _ => ?_, fun z => absurd rfl z⟩)⟩⟩
      · rw [sg_same_iff.mpr hh] at e
        simp only [cond_true] at e
        rw [e, Nat.zero_add] at hq
        exact hq
      · have : sg_same u v = false := by
          cases hb : sg_same u v with
          | false => rfl
          | true => exact absurd (sg_same_iff.mp hb) hh
        rw [this] at e
        simp only [cond_false] at e
        exact ih (j + 1) (by omega) (by omega)
  refine g_Desk_placeOf F ?_
  exact loop AU.length 0 (by omega) (by rw [List.drop_zero]; rfl)
end VON
