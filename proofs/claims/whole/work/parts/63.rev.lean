section VRV
variable {X : cd_E} {kc ks : Nat} {h h' : cd_H} {Q : Option Value → cd_H → Prop} {A : Nat → Prop} {T : Nat → Nat} {n life now cr gv us w : Nat} {sp : Nat → Bool} {ct : Option Nat} {NW : Nat → Option Nat} {AC : List sg_A} {AU AU' : List sg_U} {OR : List sg_O} {CE : List sg_C} {accs auts ords cers : List Nat} {b1 c1 b2 c2 b3 c3 b4 c4 : Nat}
theorem cc_cer.upd (Ce : cc_cer h now accs AU OR CE cers b4 c4) (hbd : cd_bd h) {j y : Nat} {c : sg_C} (hy : cers[j]? = some y) (hc : CE[j]? = some c) (C : cd_ci (fun x => x = y) h h') (e1 : cd_i h' y 1 = cd_i h y 1) (hw : w ≤ 10) (e3 : cd_i h' y 3 = nI w) : cc_cer h' now accs AU OR (CE.set j (sg_rvd w c)) cers b4 c4 := by
  obtain ⟨u1, u2, u3, u4, u5⟩ := Ce
  obtain ⟨⟨a1, a2⟩, -⟩ := u5 j y c hy hc
  have hk : ∀ x q, cd_k h x = some q → ¬ q = .inl 3 → ¬ x = y := fun x q hx hq z => by rw [z, a2] at hx; cases hx; exact hq rfl
  have oct : ∀ oc ob l, cc_oct h oc ob l → cc_oct h' oc ob l := fun oc ob l O => O.ch hbd C.ch (fun z hz => ⟨fun e => hk _ _ e (fun z => by cases z) hz, fun e => hk _ _ e (fun z => by cases z) hz⟩)
  refine ⟨by rw [List.length_set]; exact u1, u2.ci C (hk _ _ u2.2.1 (fun z => by cases z)), by rw [List.length_set]; exact u3, u4, fun i x v hx hv => ?_⟩
  rw [List.getElem?_set] at hv
  by_cases hij : j = i
  · subst hij
    rw [if_pos rfl, if_pos (List.getElem?_eq_some_iff.mp hc).1] at hv
    cases hv
    cases hy.symm.trans hx
    obtain ⟨⟨d1, d2⟩, ⟨o, z, d3, d3b, d3c⟩, d4, d5, ⟨oc, ob, d6, d6b, d6c, d6d⟩, d7, d8⟩ := u5 j y c hy hc
    exact ⟨⟨d1, by rw [C.2.1]; exact d2⟩, ⟨o, z, d3, d3b, by rw [C.2.2.1]; exact d3c⟩, by rw [e1]; exact d4, d5, ⟨oc, ob, by rw [C.2.2.1]; exact d6, d6b, d6c, oct _ _ _ d6d⟩, e3, fun q hq => by cases hq; exact hw⟩
  · rw [if_neg hij] at hv
    have hxy : ¬ x = y := fun z => hij (by subst z; exact sg_inj u4 hy hx)
    obtain ⟨⟨d1, d2⟩, ⟨o, z, d3, d3b, d3c⟩, d4, d5, ⟨oc, ob, d6, d6b, d6c, d6d⟩, d7, d8⟩ := u5 i x v hx hv
    have ei : ∀ k, cd_i h' x k = cd_i h x k := fun k => C.2.2.2.2 x k hxy
    exact ⟨⟨d1, by rw [C.2.1]; exact d2⟩, ⟨o, z, d3, d3b, by rw [C.2.2.1]; exact d3c⟩, by rw [ei]; exact d4, d5, ⟨oc, ob, by rw [C.2.2.1]; exact d6, d6b, d6c, oct _ _ _ d6d⟩, by rw [ei]; exact d7, d8⟩
theorem sp_Desk_revokeCertificate (R : cc_R h T n life now NW AC AU OR CE accs auts ords cers b1 c1 b2 c2 b3 c3 b4 c4) (S : cc_sto h us ct) (N : cc_non h cr gv sp) (hcr : cr < 1000) {e0 : Nat} (hW : tx_W T n 0 = some e0) {snd : Option Nat} (hs : ∀ i, snd = some i → i < AC.length) (hq : cc_Q Q h T n life now NW cr gv sp (sg_rev T n AC AU OR CE us ct snd)) : cd_W X m_Desk_revokeCertificate kc ks 0 [some (.ref 64), some (va_rf (snd.bind (fun i => accs[i]?))), none, none, none, none] [] h Q := by
  have F := R.1.1
  have Z := R.1.2.2.2.2.2.2.2.2
  have Aa := R.2.1
  have Ce := R.2.2.2.2.1
  have a3 := Aa.2.2.1
  have u1 := Ce.1
  have u3 := Ce.2.2.1
  have ho : ∀ v, (some 0 : Option Nat) = some v → ∃ e, tx_W T n v = some e := fun v hv => by cases hv; exact ⟨e0, hW⟩
  have P : cc_P h T n life now NW AC AU OR CE := ⟨_, _, _, _, _, _, _, _, _, _, _, _, R⟩
  have same : ∀ r : Int32, sg_rev T n AC AU OR CE us ct snd = sg_same0 r AC AU OR CE us ct → Q (some (.int r)) h := fun r e => by
    have K := hq h (cd_ch.rf _ _)
    rw [e] at K
    exact K P S N
  refine g_Desk_revokeCertificate F ?_
  show cd_W X m_Not_field 0 0 0 [some (.ref 71), some (.int (cd_op (some 0))), some (.ref 16), none, none, none, none] [] h _
  refine sp_Not_fld R.1 (l := [115, 101, 114, 105, 97, 108]) (by decide) ho ⟨_, rfl, F, sp_Not_number F Z (sg_flo ho) ⟨_, rfl, F, ?_⟩⟩
  show cd_W X m_Not_field 0 0 0 [some (.ref 71), some (.int (cd_op (some 0))), some (.ref 17), none, none, none, none] [] h _
  refine sp_Not_fld R.1 (l := [119, 104, 121]) (by decide) ho ⟨_, rfl, F, sp_Not_number F Z (sg_flo ho) ⟨_, rfl, F, ?_⟩⟩
  have la : ∀ x, sg_nf T n [115, 101, 114, 105, 97, 108] (some 0) = some x → x < 10 ^ 9 := fun x hx => sg_nf_lt ho hx
  have lw : ∀ x, sg_nf T n [119, 104, 121] (some 0) = some x → x < 10 ^ 9 := fun x hx => sg_nf_lt ho hx
  have fa : tx_num T n (sg_fl T n [115, 101, 114, 105, 97, 108] (some 0)) = sg_nf T n [115, 101, 114, 105, 97, 108] (some 0) := rfl
  have fw : tx_num T n (sg_fl T n [119, 104, 121] (some 0)) = sg_nf T n [119, 104, 121] (some 0) := rfl
  rw [fa, fw, cd_op_m1 (fun x hx => by have := la x hx; omega), cd_op_m1 (fun x hx => by have := lw x hx; omega)]
  cases ha : sg_nf T n [115, 101, 114, 105, 97, 108] (some 0) with
  | none => exact ⟨fun _ => same (-1) (by unfold sg_rev; rw [ha]), fun z => absurd rfl z⟩
  | some a =>
    have hal := la a ha
    refine ⟨fun z => (by cases z), fun _ => ?_⟩
    cases hw : sg_nf T n [119, 104, 121] (some 0) with
    | none => exact ⟨fun z => absurd rfl z, fun _ => same (-1) (by unfold sg_rev; rw [ha, hw])⟩
    | some w =>
      have hwl := lw w hw
      refine ⟨fun _ => ?_, fun z => (by cases z)⟩
      show cd_W X m_Desk_certificateAt 0 0 0 [some (.ref 64), some (.int (nI a))] [] h _
      refine sp_Desk_certificateAt F Ce ⟨_, rfl, F, fun hn => ?_, fun b hb => ⟨fun hn => ?_, fun y hy => ?_⟩⟩
      · cases hsn : snd with
        | none => exact same (-4) (by unfold sg_rev; rw [ha, hw, hsn])
        | some i =>
          have hi := hs i hsn
          rw [hsn] at hn
          have hn : accs[i]? = none := hn
          rw [List.getElem?_eq_getElem (by omega)] at hn
          cases hn
      · obtain ⟨i, hsn, hb⟩ := sg_snd hb
        rw [sg_ix_nI (by omega), List.getElem?_eq_none_iff, u3] at hn
        exact same (-4) (by unfold sg_rev; rw [ha, hw, hsn]; simp only [List.getElem?_eq_none hn])
      · obtain ⟨i, hsn, hb⟩ := sg_snd hb
        rw [sg_ix_nI (by omega)] at hy
        have hyl := (List.getElem?_eq_some_iff.mp hy).1
        have hc : CE[a]? = some (CE[a]'(by omega)) := List.getElem?_eq_getElem (by omega)
        generalize CE[a]'(by omega) = c at hc
        obtain ⟨⟨d1, d2⟩, ⟨o, z, d3, d3b, d3c⟩, d4, d5, d6, d7, d8⟩ := Ce.2.2.2.2 a y c hy hc
        have hz := (Aa.mem (List.mem_of_getElem? d3b)).2
        have eo : (OR[sgc_ord c]?).map sgo_own = some (sgo_own o) := by rw [d3]; rfl
        have own : some z = some b ↔ (OR[sgc_ord c]?).map sgo_own = some i := by
          rw [eo]
          refine ⟨fun e => ?_, fun e => ?_⟩
          · cases e
            rw [sg_inj Aa.2.2.2.1 d3b hb]
          · cases e
            rw [hb] at d3b
            exact d3b.symm
        have no : ¬ ((OR[sgc_ord c]?).map sgo_own = some i ∧ sgc_why c = none ∧ w ≤ 10 ∧ ¬ w = 7) → Q (some (.int (-4))) h := fun hne => same (-4) (by unfold sg_rev; rw [ha, hw, hsn]; simp only [hc]; rw [if_neg hne])
        have why : cd_op (sgc_why c) = -1 ↔ sgc_why c = none := cd_op_m1 (fun x hx => by have := d8 x hx; omega)
        have w10 : (10 : Int32) < cd_op (some w) ↔ 10 < w := by
          show (10 : Int32) < nI w ↔ _
          rw [show (10 : Int32) = nI 10 by decide, nI_ltI (by decide) (by omega)]
        have w7 : cd_op (some w) = 7 ↔ w = 7 := by
          show nI w = 7 ↔ _
          rw [show (7 : Int32) = nI 7 by decide, nI_eq (by omega) (by decide)]
        rw [d3c, own, d7, why, w10, w7]
        refine ⟨d2, fun p q e1 e2 => Or.inr (Or.inl (by cases e1; omega)), fun t1 => no (fun z => t1 z.1), fun t1 => ⟨fun t2 => no (fun z => t2 z.2.1), fun t2 => ⟨fun t3 => no (fun z => by omega), fun t3 => ⟨fun t4 => ?_, fun t4 => no (fun z => z.2.2.2 t4)⟩⟩⟩⟩
        have eR : sg_rev T n AC AU OR CE us ct snd = (sg_fr (sg_fate us ct 4) 0, AC, sg_fa (sg_fate us ct 4) AU, OR, if sg_fc (sg_fate us ct 4) then CE.set a (sg_rvd w c) else CE, sg_fu (sg_fate us ct 4) us 4, sg_ft (sg_fate us ct 4) ct, sg_fx (sg_fate us ct 4)) := by
          unfold sg_rev
          rw [ha, hw, hsn]
          simp only [hc]
          rw [if_pos ⟨t1, t2, by omega, t4⟩]
        rw [eR] at hq
        have hfl := sg_fate_lt us ct 4
        show cd_W X m_Desk_keep 0 0 0 [some (.ref 64), some (.int (nI 4)), none] [] h _
        refine sp_Desk_keepF R S N hcr (by decide) (fun h1 C1 en bd1 R1 S1 N1 k e0 e1 => ⟨_, rfl, R1.1.1, k, ?_⟩)
        have Cd : cd_ch cc_Dk h h1 := (cd_ch.rf cc_Dk h).old C1 (fun y _ hy => hy.dk R.2.2.1)
        generalize hf : sg_fate us ct 4 = f at *
        rw [e0]
        cases hfc : sg_fc f with
        | false =>
          refine ⟨fun _ => sp_Fat_answer R1.1.1 k e0 e1 ⟨_, rfl, R1.1.1, ?_⟩, fun z => absurd rfl z⟩
          have K := hq h1 Cd
          simp only [hfc] at K
          exact K ⟨_, _, _, _, _, _, _, _, _, _, _, _, R1⟩ S1 N1
        | true =>
          have d2' : cd_k h1 y = some (.inl 3) := (R1.2.2.2.2.1.2.2.2.2 a y _ hy hc).1.2
          refine ⟨fun z => absurd z (by decide), fun _ => ⟨d2', by omega, ?_⟩⟩
          have C2 : cd_ci (fun x => x = y) h1 (cd_si h1 y 3 (nI w)) := cd_ci.si rfl
          have i0 : ∀ j, cd_i (cd_si h1 y 3 (nI w)) f j = cd_i h1 f j := fun j => by rw [cd_i_si, if_neg (fun z => by omega)]
          refine sp_Fat_answer (C2.ok R1.1.1) k (by rw [← e0]; exact i0 0) (by rw [← e1]; exact i0 1) ⟨_, rfl, C2.ok R1.1.1, ?_⟩
          obtain ⟨B2, A2, U2, O2, -, Sp2⟩ := cc_R.k R1 bd1 (c := 3) C2 (Or.inr (Or.inr (Or.inl rfl))) (fun x hx => by subst hx; exact ⟨d1, d2'⟩)
          have Ce2 := R1.2.2.2.2.1.upd bd1 hy hc C2 (by rw [cd_i_si, if_neg (by omega)]) (by omega : w ≤ 10) (by rw [cd_i_si, if_pos ⟨rfl, rfl⟩])
          have K := hq (cd_si h1 y 3 (nI w)) (Cd.tr (cd_ch.si (Or.inr d1)))
          simp only [hfc] at K
          exact K ⟨_, _, _, _, _, _, _, _, _, _, _, _, B2, A2 (by decide), U2 (by decide), O2 (by decide), Ce2, Sp2⟩ (S1.ch C2.ch (by have := R1.1.2.1; omega) (by omega)) (N1.ch C2.ch (by have := R1.1.2.1; omega) (by omega) (by omega))
end VRV
