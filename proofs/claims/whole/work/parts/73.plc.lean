theorem sg_mk_len {P : Nat → Option Nat} {T : Nat → Nat} {n i now : Nat} : ∀ (l : List Nat) (AU : List sg_U), (sg_mk P T n i now l AU).2.length = l.length
  | [], _ => rfl
  | q :: l, AU => by
    rw [sg_mk]
    cases P q with
    | none =>
      simp only
      rw [List.length_cons, List.length_cons, sg_mk_len l]
    | some a =>
      simp only
      rw [List.length_cons, List.length_cons, sg_mk_len l]
theorem sg_wds_le {P : Nat → Option Nat} {T : Nat → Nat} {n : Nat} : ∀ (l : List Nat), (∀ q, q ∈ l → sg_sl T n q ≤ 12) → sg_wds P T n l ≤ 14 * l.length
  | [], _ => Nat.le_refl _
  | q :: l, h => by
    have a := sg_wds_le (P := P) l (fun x hx => h x (List.mem_cons_of_mem _ hx))
    have b := h q (List.mem_cons_self ..)
    rw [sg_wds, List.length_cons]
    cases P q with
    | none => simp only; omega
    | some a => simp only; omega
theorem sg_frs_le {P : Nat → Option Nat} : ∀ (l : List Nat), sg_frs P l ≤ l.length
  | [] => Nat.le_refl _
  | q :: l => by
    have a := sg_frs_le (P := P) l
    rw [sg_frs, List.length_cons]
    cases P q with
    | none => simp only; omega
    | some a => simp only; omega
theorem sg_fa_b {f : Nat} {AU : List sg_U} (h : ∀ u, u ∈ AU → ∀ j, j < sgu_len u → sgu_N u j ≠ 34 ∧ sgu_N u j ≠ 92) : ∀ u, u ∈ sg_fa f AU → ∀ j, j < sgu_len u → sgu_N u j ≠ 34 ∧ sgu_N u j ≠ 92 := by
  unfold sg_fa
  split
  · intro u hu
    rw [List.mem_map] at hu
    obtain ⟨v, hv, rfl⟩ := hu
    exact h v hv
  · exact h
theorem sg_fa_pp {f : Nat} {T : Nat → Nat} {n life now i : Nat} {AC : List sg_A} {AU : List sg_U} (q : Nat) : sg_pp T n life now AC (sg_fa f AU) i q = sg_pp T n life now AC AU i q := by
  unfold sg_fa sg_pp
  split
  · exact sg_fp_map (fun u => sg_pq_cr T n life now AC i q u) AU 0
  · rfl
section VPL
variable {X : cd_E} {kc ks : Nat} {h h' : cd_H} {Q : Option Value → cd_H → Prop} {A : Nat → Prop} {T : Nat → Nat} {n life now cr gv us w : Nat} {sp : Nat → Bool} {ct : Option Nat} {NW : Nat → Option Nat} {AC : List sg_A} {AU AU' : List sg_U} {OR OR' : List sg_O} {CE : List sg_C} {accs auts ords cers : List Nat} {b1 c1 b2 c2 b3 c3 b4 c4 : Nat}
theorem cc_cer.ora (Ce : cc_cer h now accs AU OR CE cers b4 c4) (e : ∀ (a : Nat) (o : sg_O), OR[a]? = some o → OR'[a]? = some o) : cc_cer h now accs AU OR' CE cers b4 c4 := by
  obtain ⟨u1, u2, u3, u4, u5⟩ := Ce
  refine ⟨u1, u2, u3, u4, fun i x c hx hc => ?_⟩
  obtain ⟨d1, ⟨o, z, d3, d3b, d3c⟩, d4, d5, ⟨oc, ob, d6, d6b, d6c, d6d⟩, d7⟩ := u5 i x c hx hc
  have e1 := e _ _ d3
  have en : sg_crC AU OR' i c = sg_crC AU OR i c := by
    unfold sg_crC sg_nms
    rw [d3, e1]
  rw [en]
  exact ⟨d1, ⟨o, z, e1, d3b, d3c⟩, d4, d5, ⟨oc, ob, d6, d6b, d6c, d6d⟩, d7⟩
theorem cc_ord.push {ox z pl pb pcap b' cap' i : Nat} {ps : List Nat} (O : cc_ord h now accs auts OR ords b3 c3) (hbd : cd_bd h) (hl : OR.length < 12) (C : cd_ch A h h') (hA : ∀ x, A x → ¬ cd_k h x = some (.inl 8)) (hp : ∀ y pl, y ∈ ords → cd_r h y 2 = some pl → ¬ A pl ∧ ∀ pb, cd_r h pl 0 = some pb → ¬ A pb) (L' : cc_lst h' 79 (ords ++ [ox]) b' cap') (hox : ¬ ox ∈ ords) (hz : accs[i]? = some z) (h3 : ps.length ≤ 3) (hpl : ∀ p, p ∈ ps → p < auts.length) (M : cc_mk h' now ox z pl pb pcap (sg_pc auts ps)) : cc_ord h' now accs auts (OR ++ [(i, now, ps, none)]) (ords ++ [ox]) b' cap' := by
  obtain ⟨u1, u2, u3, u4, u5⟩ := O
  refine ⟨by rw [List.length_append, List.length_singleton]; omega, L', by rw [List.length_append, List.length_append, List.length_singleton, List.length_singleton]; omega, sg_push u4 hox, fun j x o hx ho => ?_⟩
  by_cases e : j < ords.length
  · rw [List.getElem?_append_left e] at hx
    rw [List.getElem?_append_left (by omega)] at ho
    obtain ⟨⟨d1, d2⟩, d3, d4, d5, d6, d7, ⟨pl', pb', pcap', d8, d8b, d8c⟩, d9⟩ := u5 j x o hx ho
    have hx2 := hbd _ _ d2
    obtain ⟨p1, p2, p3⟩ := C.2.2 x hx2 (fun w => hA x w d2)
    obtain ⟨q1, q2⟩ := hp x pl' (List.mem_of_getElem? hx) d8
    exact ⟨⟨d1, by rw [C.2.1 x hx2]; exact d2⟩, by rw [p3]; exact d3, by rw [p1]; exact d4, d5, d6, d7, ⟨pl', pb', pcap', by rw [p3]; exact d8, d8b, d8c.ch C (hbd _ _ d8c.2.1) (hbd _ _ d8c.2.2.2.2.1) q1 (q2 pb' d8c.2.2.2.1)⟩, by rw [p1]; exact d9⟩
  · have hi := (List.getElem?_eq_some_iff.mp hx).1
    rw [List.length_append, List.length_singleton] at hi
    have ej : j = ords.length := by omega
    rw [ej, List.getElem?_append_right (Nat.le_refl _), Nat.sub_self] at hx
    rw [ej, u3, List.getElem?_append_right (Nat.le_refl _), Nat.sub_self] at ho
    cases hx
    cases ho
    obtain ⟨⟨m1, m2, m3, m4, m5, m6⟩, m7, m8⟩ := M
    exact ⟨⟨m1, m2⟩, ⟨z, hz, m3⟩, m4, Nat.le_refl _, h3, hpl, ⟨pl, pb, pcap, m5, m7, m8⟩, m6, fun c hc => by cases hc⟩
theorem sp_plc_add {ox z pl pb pcap i : Nat} {ps : List Nat} (R : cc_R h T n life now NW AC AU OR CE accs auts ords cers b1 c1 b2 c2 b3 c3 b4 c4) (hbd : cd_bd h) (hl : OR.length < 12) (hz : accs[i]? = some z) (h3 : ps.length ≤ 3) (hpl : ∀ p, p ∈ ps → p < auts.length) (M : cc_mk h now ox z pl pb pcap (sg_pc auts ps)) (E : cc_mx h ords pl) (hox : ¬ ox ∈ ords)
    (hq : ∀ h', cd_ch (fun x => x = 79 ∨ (x = b3 ∧ 64 ≤ b3)) h h' → cc_P h' T n life now NW AC AU (OR ++ [(i, now, ps, none)]) CE → Q (some (.int 1)) h') : cd_W X m_AL_add_LObjectZ 1 40 0 [some (.ref 79), some (.ref ox)] [] h Q := by
  have O := R.2.2.2.1
  have o1 := O.1
  have o3 := O.2.2.1
  refine sp_AL_add (kc := 0) (ks := 0) (v := ox) (c := 8) O.2.1 M.1.2.1 cs_8 (by omega) (fun x hx => ⟨8, (O.mem hx).1.1, cs_8⟩) (fun h4 b' cap' C4 L4 hb4 hn4 => ?_)
  have hb4' : b' = b3 ∨ cd_n h ≤ b' := by
    rcases hb4 with z | z
    · exact Or.inl z
    · exact Or.inr (by omega)
  obtain ⟨B4, A4, U4, -, Ce4, Sp4⟩ := cc_R.ad R hbd (a := 79) (Or.inr (Or.inl rfl)) O.2.1 C4 ⟨b', L4.2.2.2.1, hb4'⟩
  have E4 : cc_mx h4 ords pl := cc_mx.add R hbd M.2.2 E (Or.inl (Or.inr (Or.inl rfl))) O.2.1 C4 L4.2.2.2.1 hb4'
  have kin : ∀ x q, cd_k h x = some (.inl q) → ¬ q = 12 → ¬ (x = 79 ∨ (x = b3 ∧ 64 ≤ b3)) := fun x q hx h1 zz => by
    rcases zz with zz | zz
    · rw [zz, O.2.1.2.1] at hx; cases hx; exact h1 rfl
    · rw [zz.1, O.2.1.2.2.2.2.1] at hx; cases hx
  have lst : ∀ a l b cap, (cc_isl h ords a ∨ a = pl) → ¬ a = 79 → cc_lst h a l b cap → ¬ (a = 79 ∨ (a = b3 ∧ 64 ≤ b3)) ∧ ¬ (b = 79 ∨ (b = b3 ∧ 64 ≤ b3)) := fun a l b cap hi hne L => by
    refine ⟨fun zz => ?_, fun zz => ?_⟩
    · rcases zz with zz | zz
      · exact hne zz
      · have := L.2.1
        rw [zz.1, O.2.1.2.2.2.2.1] at this
        cases this
    · rcases zz with zz | zz
      · have := L.2.2.2.2.1
        rw [zz, O.2.1.2.1] at this
        cases this
      · exact hne (E.1.1 a 79 b3 hi (Or.inl (Or.inr (Or.inl rfl))) (by rw [← zz.1]; exact L.2.2.2.1) O.2.1.2.2.2.1 zz.2)
  have hpl114 := M.2.1
  have Lm := lst pl _ _ _ (Or.inr rfl) (by omega) M.2.2
  have M4 := M.ch hbd C4 (kin _ _ M.1.2.1 (by decide)) Lm.1 Lm.2
  have O4 : cc_ord h4 now accs auts (OR ++ [(i, now, ps, none)]) (ords ++ [ox]) b' cap' := O.push hbd hl C4 (fun x hx hk => kin x _ hk (by decide) hx) (fun y pl' hy hr => by
    obtain ⟨-, pl2, l', pb2, pcap2, d1, d2, d3⟩ := O.mem hy
    cases d1.symm.trans hr
    have L2 := lst _ _ _ _ (Or.inl (Or.inr (Or.inr (Or.inr (Or.inr ⟨y, hy, hr⟩))))) (by omega) d3
    exact ⟨L2.1, fun pb' hpb => by cases d3.2.2.2.1.symm.trans hpb; exact L2.2⟩) L4 hox hz h3 hpl M4
  have Sp5 : cc_sep h4 (ords ++ [ox]) := by
    refine cc_sp.of E4.1 (fun a ha => ?_) (fun _ _ => rfl)
    rcases ha with e | e | e | e | ⟨y, hy, e⟩
    · exact Or.inl (Or.inl e)
    · exact Or.inl (Or.inr (Or.inl e))
    · exact Or.inl (Or.inr (Or.inr (Or.inl e)))
    · exact Or.inl (Or.inr (Or.inr (Or.inr (Or.inl e))))
    · rw [List.mem_append, List.mem_singleton] at hy
      rcases hy with hy | rfl
      · exact Or.inl (Or.inr (Or.inr (Or.inr (Or.inr ⟨y, hy, e⟩))))
      · rw [M4.1.2.2.2.2.1] at e
        cases e
        exact Or.inr rfl
  exact hq h4 C4 ⟨_, _, _, _, _, _, _, _, _, _, _, _, B4, A4 (by decide), U4 (by decide), O4, (Ce4 (by decide)).ora (fun a o ho => by rw [List.getElem?_append_left (List.getElem?_eq_some_iff.mp ho).1]; exact ho), Sp5⟩
theorem sp_Desk_placeOrder (R : cc_R h T n life now NW AC AU OR CE accs auts ords cers b1 c1 b2 c2 b3 c3 b4 c4) (S : cc_sto h us ct) (N : cc_non h cr gv sp) (hcr : cr < 1000) (I : sg_I AC AU OR CE) {e0 : Nat} (hW : tx_W T n 0 = some e0) {ok : Bool} (hok : ∀ l, tx_z T n (sg_fl T n [110, 97, 109, 101, 115] (some 0)) = some l → (ok = true ↔ ((1 ≤ l.length ∧ l.length ≤ 3) ∧ sg_nok T n l))) {snd : Option Nat} (hs : ∀ i, snd = some i → i < AC.length) (hq : cc_Q Q h T n life now NW cr gv sp (sg_plc T n life now ok AC AU OR CE us ct snd)) : cd_W X m_Desk_placeOrder (kc + 81) (ks + 2240) 0 [some (.ref 64), some (va_rf (snd.bind (fun i => accs[i]?))), none, none, none, none, none] [] h Q := by
  refine cd_W.bd (fun hbd => ?_)
  have F := R.1.1
  have Z := R.1.2.2.2.2.2.2.2.2
  have hn := R.1.2.1
  have ho : ∀ v, (some 0 : Option Nat) = some v → ∃ e, tx_W T n v = some e := fun v hv => by cases hv; exact ⟨e0, hW⟩
  refine g_Desk_placeOrder F ?_
  show cd_W X m_Not_field 0 0 0 [some (.ref 71), some (.int (cd_op (some 0))), some (.ref 8), none, none, none, none] [] h _
  refine sp_Not_fld R.1 (l := [110, 97, 109, 101, 115]) (by decide) ho ⟨_, rfl, F, sp_Not_strings F Z (sg_flo ho) (fun h0 C0 st => ⟨_, rfl, C0.cok F, ?_⟩)⟩
  have R0 := R.s73 hbd C0.ci
  have C0d : cd_ch cc_Dk h h0 := (cd_ch.rf cc_Dk h).old C0.ci.ch (fun x _ hx => by subst hx; exact Or.inl (by decide))
  have S0 := S.ch C0.ci.ch (by omega) (by decide)
  have N0 := N.ch C0.ci.ch (by omega) (by decide) (by decide)
  have bd0 : cd_bd h0 := fun x q hx => by rw [C0.2.1] at hx; rw [C0.1]; exact hbd x q hx
  have F0 := R0.1.1
  have Z0 := R0.1.2.2.2.2.2.2.2.2
  have Aa := R0.2.1
  have U := R0.2.2.1
  have O := R0.2.2.2.1
  have a3 := Aa.2.2.1
  have u1 := U.1
  have u3 := U.2.2.1
  have o1 := O.1
  have o3 := O.2.2.1
  have same : ∀ r : Int32, sg_plc T n life now ok AC AU OR CE us ct snd = sg_same0 r AC AU OR CE us ct → Q (some (.int r)) h0 := fun r e => by
    have K := hq h0 C0d
    rw [e] at K
    exact K ⟨_, _, _, _, _, _, _, _, _, _, _, _, R0⟩ S0 N0
  cases hz : tx_z T n (sg_fl T n [110, 97, 109, 101, 115] (some 0)) with
  | none =>
    refine g_Desk_areNames F0 ⟨fun _ => ⟨_, rfl, F0, fun z => absurd rfl z, fun _ => same (-1) (by unfold sg_plc; rw [hz])⟩, fun t => absurd ?_ t⟩
    show cd_op none < 1
    decide
  | some l =>
  have hll := tx_z_len hz
  have hls := tx_z_s hz
  have hst := st l hz
  have elo : tx_lo (some l) = nI l.length := rfl
  rw [elo]
  refine sp_Desk_areNames F0 Z0 hst (by omega) hls (fun hnok => ⟨_, rfl, F0, fun _ => ⟨fun hnone => ?_, fun b hb => ?_⟩, fun z => absurd z (by decide)⟩) (fun hnok => ⟨_, rfl, F0, fun z => absurd rfl z, fun _ => same (-1) ?_⟩)
  · have hokt := (hok l hz).mpr hnok
    cases hsn : snd with
    | none => exact same (-4) (by unfold sg_plc; rw [hz, hsn, hokt]; rfl)
    | some i =>
      have hi := hs i hsn
      rw [hsn] at hnone
      have hnone : accs[i]? = none := hnone
      rw [List.getElem?_eq_getElem (by omega)] at hnone
      cases hnone
  · have hokt := (hok l hz).mpr hnok
    obtain ⟨i, hsn, hb⟩ := sg_snd hb
    have hi := hs i hsn
    obtain ⟨hl3, hnk⟩ := hnok
    have hnm : ∀ q, q ∈ l → tx_nm T q (sg_sl T n q) := fun q hq => by
      obtain ⟨k, hk⟩ := List.getElem?_of_mem hq
      exact hnk.1 k q hk
    generalize hPP : sg_pp T n life now AC AU i = P
    have hP : ∀ q, sg_pp T n life now AC AU i q = P q := fun q => by rw [hPP]
    have hwl := sg_wds_le (P := P) l (fun q hq => (hnm q hq).1.2)
    have hfl := sg_frs_le (P := P) l
    have eR : sg_plc T n life now ok AC AU OR CE us ct snd = if 12 ≤ OR.length ∨ 24 < AU.length + sg_frs P l then sg_same0 (-5) AC AU OR CE us ct else
      (sg_fr (sg_fate us ct (5 + sg_wds P T n l)) (nI OR.length), AC,
        (if sg_fc (sg_fate us ct (5 + sg_wds P T n l)) then (sg_mk P T n i now l (sg_fa (sg_fate us ct (5 + sg_wds P T n l)) AU)).1 else sg_fa (sg_fate us ct (5 + sg_wds P T n l)) AU),
        (if sg_fc (sg_fate us ct (5 + sg_wds P T n l)) then OR ++ [(i, now, (sg_mk P T n i now l (sg_fa (sg_fate us ct (5 + sg_wds P T n l)) AU)).2, none)] else OR), CE,
        sg_fu (sg_fate us ct (5 + sg_wds P T n l)) us (5 + sg_wds P T n l), sg_ft (sg_fate us ct (5 + sg_wds P T n l)) ct, sg_fx (sg_fate us ct (5 + sg_wds P T n l))) := by
      unfold sg_plc
      rw [hz, hsn, hokt]
      simp only [hPP]
      rfl
    have loop : ∀ r k w0 f0, r + k = l.length → w0 + sg_wds P T n (l.drop k) = 5 + sg_wds P T n l → f0 + sg_frs P (l.drop k) = sg_frs P l → cd_W X m_Desk_placeOrder (kc + 81) (ks + 2240) 48 [some (.ref 64), some (.ref b), some (.int (nI l.length)), some (.int (nI w0)), some (.int (nI f0)), some (.int (nI k)), none] [] h0 Q := by
      intro r
      induction r with
      | zero =>
        intro k w0 f0 hk ew ef
        rw [List.drop_of_length_le (by omega), sg_wds, Nat.add_zero] at ew
        rw [List.drop_of_length_le (by omega), sg_frs, Nat.add_zero] at ef
        rw [ew, ef]
        refine g_Desk_placeOrder_48b F0 ?_
        rw [nI_leI (by omega) (by omega)]
        refine ⟨fun _ => sp_AL_size O.2.1 ⟨_, rfl, F0, ?_⟩, fun t => by omega⟩
        rw [show (12 : Int32) = nI 12 by decide, nI_leI (by decide) (by omega)]
        refine ⟨fun t => same (-5) (by rw [eR, if_pos (Or.inl (by omega))]), fun t => sp_AL_size U.2.1 ⟨_, rfl, F0, ?_⟩⟩
        rw [nI_add, show (24 : Int32) = nI 24 by decide, nI_leI (by omega) (by decide)]
        refine ⟨fun t2 => ?_, fun t2 => same (-5) (by rw [eR, if_pos (Or.inr (by omega))])⟩
        rw [if_neg (by omega)] at eR
        rw [eR] at hq
        have hff := sg_fate_lt us ct (5 + sg_wds P T n l)
        refine sp_Desk_keepF R0 S0 N0 hcr (by omega) (fun h1 C1 en bd1 R1 S1 N1 kf ef0 ef1 => ⟨_, rfl, R1.1.1, kf, ?_⟩)
        have Cd : cd_ch cc_Dk h h1 := C0d.old C1 (fun y _ hy => hy.dk U)
        have st1 : ∀ i q, l[i]? = some q → cd_i h1 73 i = nI q := fun j q hj => by
          rw [(C1.2.2 73 (by have := R0.1.2.1; omega) (fun zz => by rcases U.tk F0 zz with e | e | e <;> omega)).1]
          exact hst j q hj
        generalize hf : sg_fate us ct (5 + sg_wds P T n l) = f at *
        rw [ef0, o3]
        cases hfc : sg_fc f with
        | false =>
          refine ⟨fun _ => sp_Fat_answer R1.1.1 kf ef0 ef1 ⟨_, rfl, R1.1.1, ?_⟩, fun z => absurd rfl z⟩
          have K := hq h1 Cd
          simp only [hfc] at K
          exact K ⟨_, _, _, _, _, _, _, _, _, _, _, _, R1⟩ S1 N1
        | true =>
          refine ⟨fun z => absurd z (by decide), fun _ => ?_⟩
          have n1 := R1.1.2.1
          have fal := sg_fa_len f AU
          refine sp_Desk_makeOrder (P := P) (by omega) hb hls hnm R1 st1 (sg_fa_b I.2.1) (fun q => by rw [sg_fa_pp, hP q]) (by omega) (fun h2 auts' b2' c2' pl pb' pcap' C2 R2 M2 hp2 E2 => ⟨_, rfl, R2.1.1, ?_⟩)
          have n2 : cd_n h1 ≤ cd_n h2 := C2.1
          refine cd_W.bd (fun bd2 => sp_plc_add R2 bd2 (by omega) hb (by rw [sg_mk_len]; omega) hp2 M2 E2 (fun zz => ?_) (fun h3 C3 P3 => ?_))
          · have := bd1 _ _ (R1.2.2.2.1.mem zz).1.1
            omega
          have O2 := R2.2.2.2.1
          have b114 : 64 ≤ b3 → 114 ≤ b3 := fun hb3 => R2.2.2.2.2.2.2 79 b3 (Or.inr (Or.inl rfl)) O2.2.1.2.2.2.1 hb3
          have C13 : cd_ch (fun x => cc_MK x ∨ x = 79) h1 h3 := ((cd_ch.rf (fun x => cc_MK x ∨ x = 79) h1).old C2 (fun x _ hx => Or.inl hx)).old C3 (fun x _ hx => by
            rcases hx with rfl | ⟨rfl, hx⟩
            · exact Or.inr rfl
            · exact Or.inl (Or.inr (b114 hx)))
          have lo : ∀ x, x < 79 → ¬ (cc_MK x ∨ x = 79) := fun x hx zz => by
            rcases zz with (zz | zz) | zz <;> omega
          have k3 : cd_k h3 f = some (.inl 10) := by rw [C13.2.1 f (by omega)]; exact kf
          have i3 : ∀ j, cd_i h3 f j = cd_i h1 f j := (C13.2.2 f (by omega) (lo f (by omega))).1
          have P3c := P3
          obtain ⟨_, _, _, _, _, _, _, _, _, _, _, _, R3⟩ := P3c
          refine ⟨_, rfl, R3.1.1, k3, sp_Fat_answer R3.1.1 k3 (by rw [← ef0]; exact i3 0) (by rw [← ef1]; exact i3 1) ⟨_, rfl, R3.1.1, ?_⟩⟩
          have K := hq h3 (Cd.old C13 (fun x hx zz => by
            rcases zz with (rfl | zz) | rfl
            · exact Or.inl (by decide)
            · exact Or.inr zz
            · exact Or.inl (by decide)))
          simp only [hfc] at K
          exact K P3 (S1.ch C13 (by omega) (lo _ (by decide))) (N1.ch C13 (by omega) (lo _ (by decide)) (lo _ (by decide)))
      | succ r ih =>
        intro k w0 f0 hk ew ef
        have hlt : k < l.length := by omega
        have el : l[k]? = some l[k] := List.getElem?_eq_getElem hlt
        have hmem := List.getElem_mem hlt
        obtain ⟨c, hsx⟩ := hls _ hmem
        have hname := hnm _ hmem
        rw [List.drop_eq_getElem_cons hlt, sg_wds] at ew
        rw [List.drop_eq_getElem_cons hlt, sg_frs] at ef
        generalize hqq : l[k] = q at *
        refine g_Desk_placeOrder_48b F0 ?_
        rw [nI_leI (by omega) (by omega), nI_clamp (by omega), hst k q el, nI_1]
        refine ⟨fun t => by omega, fun _ => ⟨vp_in_nI (by omega) (by decide), sp_Desk_provedPart F0 Z0 R0.1.2.2.2.2.2.2.1 Aa U I.2.1 hb hsx ⟨_, rfl, F0, fun hnone => ?_, fun y hy => ?_⟩⟩⟩
        · have hPq : P q = none := by
            rw [← hP q]
            cases hpp : sg_pp T n life now AC AU i q with
            | none => rfl
            | some a =>
              rw [hpp] at hnone
              have hnone : auts[a]? = none := hnone
              have := sg_fp_lt AU 0 a hpp
              rw [List.getElem?_eq_getElem (by omega)] at hnone
              cases hnone
          rw [hPq] at ew ef
          simp only at ew ef
          rw [hst k q el]
          refine sp_Not_stringLength F0 Z0 hsx ⟨_, rfl, F0, ?_⟩
          have hsl := sg_sl_eq hsx
          rw [show (2 : Int32) = nI 2 by decide, nI_add, nI_add, nI_1, ← hsl]
          exact ih (k + 1) _ _ (by omega) (by omega) (by omega)
        · cases hpp : sg_pp T n life now AC AU i q with
          | none => rw [hpp] at hy; cases hy
          | some a =>
            have hPq : P q = some a := by rw [← hP q]; exact hpp
            rw [hPq] at ew ef
            simp only at ew ef
            rw [nI_1, nI_1]
            exact ih (k + 1) (w0 + 1) f0 (by omega) (by omega) (by omega)
    show cd_W X m_Desk_placeOrder (kc + 81) (ks + 2240) 48 [some (.ref 64), some (.ref b), some (.int (nI l.length)), some (.int (nI 5)), some (.int (nI 0)), some (.int (nI 0)), none] [] h0 Q
    exact loop l.length 0 5 0 (by omega) (by rw [List.drop_zero]) (by rw [List.drop_zero, Nat.zero_add])
  · have hokf : ok = false := by
      cases hb : ok with
      | false => rfl
      | true => exact absurd ((hok l hz).mp hb) hnok
    unfold sg_plc
    rw [hz, hokf]
    rfl
end VPL
