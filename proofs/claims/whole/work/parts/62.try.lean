theorem tx_f_ok {T : Nat → Nat} {n : Nat} {N : Nat → Nat} {len v : Nat} {o : Option Nat} (ho : ∀ v, o = some v → ∃ e, tx_W T n v = some e) (h : tx_f T n N len o = some v) : ∃ e, tx_W T n v = some e := by
  cases o with
  | none => cases h
  | some k =>
    obtain ⟨e, hW⟩ := ho k rfl
    rw [tx_f] at h
    by_cases c : k < n ∧ T k = 123
    · rw [if_pos c] at h
      rcases tx_W_obj hW c.1 c.2 with ⟨b1, b2, _⟩ | ⟨b1, b2⟩
      · have hs : tx_s T n (k + 1) = none := by rw [tx_s, if_neg (by omega)]
        rw [tx_F, hs] at h
        cases h
      · exact tx_F_ok 96 (k + 1) e v b2 h
    · rw [if_neg c] at h
      cases h
def sg_fl (T : Nat → Nat) (n : Nat) (l : List Nat) (o : Option Nat) : Option Nat := tx_f T n (cd_csN l) l.length o
def sg_nf (T : Nat → Nat) (n : Nat) (l : List Nat) (o : Option Nat) : Option Nat := tx_num T n (sg_fl T n l o)
theorem sg_nf_lt {T : Nat → Nat} {n x : Nat} {l : List Nat} {o : Option Nat} (ho : ∀ v, o = some v → ∃ e, tx_W T n v = some e) (h : sg_nf T n l o = some x) : x < 10 ^ 9 := by
  unfold sg_nf at h
  cases hf : sg_fl T n l o with
  | none => rw [hf] at h; cases h
  | some v =>
    rw [hf] at h
    obtain ⟨e, hW⟩ := tx_f_ok ho hf
    exact tx_num_lt hW h
theorem cd_csL_ok : ∀ q ∈ cd_csL, q.2.length ≤ 8 ∧ ∀ j, j < q.2.length → (cd_csN q.2 j ≠ 34 ∧ cd_csN q.2 j ≠ 92) ∧ 0 < cd_csN q.2 j ∧ cd_csN q.2 j < 128 := by decide
def sg_trd (w : Nat) (u : sg_U) : sg_U := (sgu_own u, sgu_N u, sgu_len u, sgu_made u, sgu_dec u, sgu_since u, w + 1)
def sg_try (T : Nat → Nat) (n life now : Nat) (AC : List sg_A) (AU : List sg_U) (OR : List sg_O) (CE : List sg_C) (us : Nat) (ct : Option Nat) (snd : Option Nat) : sg_Rs := match sg_nf T n [97, 117, 116, 104] (some 0), sg_nf T n [119, 97, 121] (some 0) with
  | some a, some w => if 1 < w then sg_same0 (-1) AC AU OR CE us ct else match snd with
    | none => sg_same0 (-4) AC AU OR CE us ct
    | some i => match AU[a]? with
      | none => sg_same0 (-4) AC AU OR CE us ct
      | some u => if sgu_own u = i ∧ sg_st AC life now u = 0 then (0, AC, AU.set a (sg_trd w u), OR, CE, us, ct, false) else sg_same0 (-4) AC AU OR CE us ct
  | _, _ => sg_same0 (-1) AC AU OR CE us ct
def sg_rvd (w : Nat) (c : sg_C) : sg_C := (sgc_ord c, sgc_key c, sgc_made c, sgc_seal c, some w)
def sg_rev (T : Nat → Nat) (n : Nat) (AC : List sg_A) (AU : List sg_U) (OR : List sg_O) (CE : List sg_C) (us : Nat) (ct : Option Nat) (snd : Option Nat) : sg_Rs := match sg_nf T n [115, 101, 114, 105, 97, 108] (some 0), sg_nf T n [119, 104, 121] (some 0) with
  | some a, some w => match snd with
    | none => sg_same0 (-4) AC AU OR CE us ct
    | some i => match CE[a]? with
      | none => sg_same0 (-4) AC AU OR CE us ct
      | some c => if (OR[sgc_ord c]?).map sgo_own = some i ∧ sgc_why c = none ∧ w ≤ 10 ∧ ¬ w = 7 then (sg_fr (sg_fate us ct 4) 0, AC, sg_fa (sg_fate us ct 4) AU, OR, if sg_fc (sg_fate us ct 4) then CE.set a (sg_rvd w c) else CE, sg_fu (sg_fate us ct 4) us 4, sg_ft (sg_fate us ct 4) ct, sg_fx (sg_fate us ct 4)) else sg_same0 (-4) AC AU OR CE us ct
  | _, _ => sg_same0 (-1) AC AU OR CE us ct
theorem sg_snd {snd : Option Nat} {accs : List Nat} {b : Nat} (hb : snd.bind (fun i => accs[i]?) = some b) : ∃ i, snd = some i ∧ accs[i]? = some b := by
  cases hsn : snd with
  | none => rw [hsn] at hb; cases hb
  | some i => exact ⟨i, rfl, by rw [hsn] at hb; exact hb⟩
section VTR
variable {X : cd_E} {kc ks : Nat} {h h' : cd_H} {Q : Option Value → cd_H → Prop} {A : Nat → Prop} {T : Nat → Nat} {n life now cr gv us w : Nat} {sp : Nat → Bool} {ct : Option Nat} {NW : Nat → Option Nat} {AC : List sg_A} {AU AU' : List sg_U} {OR : List sg_O} {CE : List sg_C} {accs auts ords cers : List Nat} {b1 c1 b2 c2 b3 c3 b4 c4 : Nat}
theorem sp_Not_fld (B : cc_B h T n life now NW) {a : Nat} {l : List Nat} (hm : (a, l) ∈ cd_csL) {o : Option Nat} (ho : ∀ v, o = some v → ∃ e, tx_W T n v = some e) (hq : Q (some (.int (cd_op (sg_fl T n l o)))) h) : cd_W X m_Not_field kc ks 0 [some (.ref 71), some (.int (cd_op o)), some (.ref a), none, none, none, none] [] h Q := by
  obtain ⟨F, hn, Ft, Cs, Ky, Kk, K, W, Z⟩ := B
  obtain ⟨k1, k2⟩ := cd_csL_ok _ hm
  exact sp_Not_field F Z (Cs _ hm).1 (by have k1 : l.length ≤ 8 := k1; omega) (fun j hj => (k2 j hj).1) ho hq
theorem sg_flo {l : List Nat} {o : Option Nat} (ho : ∀ v, o = some v → ∃ e, tx_W T n v = some e) : ∀ v, sg_fl T n l o = some v → ∃ e, tx_W T n v = some e := fun v hv => tx_f_ok ho hv
theorem cd_op_m1 {o : Option Nat} (h : ∀ x, o = some x → x < 2 ^ 31) : cd_op o = -1 ↔ o = none := by
  cases o with
  | none => exact ⟨fun _ => rfl, fun _ => rfl⟩
  | some x =>
    refine ⟨fun z => ?_, fun z => by cases z⟩
    have := cd_op_pos (h x rfl)
    rw [z] at this
    exact absurd (by decide) this
theorem sp_Desk_startTrial (R : cc_R h T n life now NW AC AU OR CE accs auts ords cers b1 c1 b2 c2 b3 c3 b4 c4) (S : cc_sto h us ct) (N : cc_non h cr gv sp) {e0 : Nat} (hW : tx_W T n 0 = some e0) {snd : Option Nat} (hs : ∀ i, snd = some i → i < AC.length) (hq : cc_Q Q h T n life now NW cr gv sp (sg_try T n life now AC AU OR CE us ct snd)) : cd_W X m_Desk_startTrial kc ks 0 [some (.ref 64), some (va_rf (snd.bind (fun i => accs[i]?))), none, none, none] [] h Q := by
  refine cd_W.bd (fun hbd => ?_)
  have F := R.1.1
  have Z := R.1.2.2.2.2.2.2.2.2
  have Aa := R.2.1
  have U := R.2.2.1
  have a3 := Aa.2.2.1
  have u1 := U.1
  have u3 := U.2.2.1
  have ho : ∀ v, (some 0 : Option Nat) = some v → ∃ e, tx_W T n v = some e := fun v hv => by cases hv; exact ⟨e0, hW⟩
  have P : cc_P h T n life now NW AC AU OR CE := ⟨_, _, _, _, _, _, _, _, _, _, _, _, R⟩
  have same : ∀ r : Int32, sg_try T n life now AC AU OR CE us ct snd = sg_same0 r AC AU OR CE us ct → Q (some (.int r)) h := fun r e => by
    have K := hq h (cd_ch.rf _ _)
    rw [e] at K
    exact K P S N
  refine g_Desk_startTrial F ?_
  show cd_W X m_Not_field 0 0 0 [some (.ref 71), some (.int (cd_op (some 0))), some (.ref 10), none, none, none, none] [] h _
  refine sp_Not_fld R.1 (l := [97, 117, 116, 104]) (by decide) ho ⟨_, rfl, F, sp_Not_number F Z (sg_flo ho) ⟨_, rfl, F, ?_⟩⟩
  show cd_W X m_Not_field 0 0 0 [some (.ref 71), some (.int (cd_op (some 0))), some (.ref 11), none, none, none, none] [] h _
  refine sp_Not_fld R.1 (l := [119, 97, 121]) (by decide) ho ⟨_, rfl, F, sp_Not_number F Z (sg_flo ho) ⟨_, rfl, F, ?_⟩⟩
  show (cd_op (sg_nf T n [97, 117, 116, 104] (some 0)) = -1 → _) ∧ (¬ cd_op (sg_nf T n [97, 117, 116, 104] (some 0)) = -1 → cd_W X m_Desk_isWay 0 0 0 [some (.int (cd_op (sg_nf T n [119, 97, 121] (some 0))))] [] h _)
  have la : ∀ x, sg_nf T n [97, 117, 116, 104] (some 0) = some x → x < 10 ^ 9 := fun x hx => sg_nf_lt ho hx
  have lw : ∀ x, sg_nf T n [119, 97, 121] (some 0) = some x → x < 10 ^ 9 := fun x hx => sg_nf_lt ho hx
  rw [cd_op_m1 (fun x hx => by have := la x hx; omega)]
  cases ha : sg_nf T n [97, 117, 116, 104] (some 0) with
  | none => exact ⟨fun _ => same (-1) (by unfold sg_try; rw [ha]), fun z => absurd rfl z⟩
  | some a =>
    have hal := la a ha
    refine ⟨fun z => (by cases z), fun _ => ?_⟩
    cases hw : sg_nf T n [119, 97, 121] (some 0) with
    | none =>
      refine sp_Desk_isWay F (fun w _ e => ?_) (fun _ => ⟨_, rfl, F, fun z => absurd rfl z, fun _ => same (-1) (by unfold sg_try; rw [ha, hw])⟩)
      have := nI_pos (n := w) (by omega)
      rw [← e] at this
      exact absurd cd_op_neg this
    | some w =>
      have hwl := lw w hw
      refine sp_Desk_isWay F (fun w' hw' e => ?_) (fun hx => ⟨_, rfl, F, fun z => absurd rfl z, fun _ => same (-1) ?_⟩)
      · have e : nI w = nI w' := e
        rw [nI_eq (by omega) (by omega)] at e
        subst e
        refine ⟨_, rfl, F, fun _ => ?_, fun z => absurd z (by decide)⟩
        rw [show tx_num T n (sg_fl T n [97, 117, 116, 104] (some 0)) = some a from ha, show tx_num T n (sg_fl T n [119, 97, 121] (some 0)) = some w from hw]
        show cd_W X m_Desk_authorizationAt 0 0 0 [some (.ref 64), some (.int (nI a))] [] h _
        refine sp_Desk_authorizationAt F U ⟨_, rfl, F, fun hn => ?_, fun b hb => ⟨fun hn => ?_, fun y hy => ?_⟩⟩
        · cases hsn : snd with
          | none => exact same (-4) (by unfold sg_try; rw [ha, hw, hsn]; simp only; rw [if_neg (by omega)])
          | some i =>
            have hi := hs i hsn
            rw [hsn] at hn
            have hn : accs[i]? = none := hn
            rw [List.getElem?_eq_getElem (by omega)] at hn
            cases hn
        · obtain ⟨i, hsn, hb⟩ := sg_snd hb
          rw [sg_ix_nI (by omega), List.getElem?_eq_none_iff, u3] at hn
          exact same (-4) (by unfold sg_try; rw [ha, hw, hsn]; simp only [List.getElem?_eq_none hn]; rw [if_neg (by omega)])
        · obtain ⟨i, hsn, hb⟩ := sg_snd hb
          rw [sg_ix_nI (by omega)] at hy
          have hyl := (List.getElem?_eq_some_iff.mp hy).1
          have hu : AU[a]? = some (AU[a]'(by omega)) := List.getElem?_eq_getElem (by omega)
          generalize AU[a]'(by omega) = u at hu
          obtain ⟨⟨d1, d2, d3⟩, ⟨z, d4, d5⟩, d6, d7, d8, d9, d10, d11, ⟨d12, d13, d14, d15⟩, d16, d17⟩ := U.2.2.2.2 a y u hy hu
          have hz := (Aa.mem (List.mem_of_getElem? d4)).2
          have stl := sg_st_le AC life now u
          have own : some z = some b ↔ sgu_own u = i := by
            refine ⟨fun e => ?_, fun e => ?_⟩
            · cases e
              exact sg_inj Aa.2.2.2.1 d4 hb
            · rw [e, hb] at d4
              exact d4.symm
          rw [d5, own]
          refine ⟨d2, fun p q e1 e2 => Or.inr (Or.inl (by cases e1; omega)), fun hne => same (-4) (by unfold sg_try; rw [ha, hw, hsn]; simp only [hu]; rw [if_neg (by omega), if_neg (fun z => hne z.1)]), fun heq => sp_Desk_authorizationState F R.1.2.2.2.2.2.2.1 Aa U hy hu ⟨_, rfl, F, ?_⟩⟩
          have h0 : nI (sg_st AC life now u) = 0 ↔ sg_st AC life now u = 0 := by
            rw [show (0 : Int32) = nI 0 by decide, nI_eq (by omega) (by decide)]
          rw [h0]
          refine ⟨fun hst => ⟨d2, by omega, ?_⟩, fun hst => same (-4) (by unfold sg_try; rw [ha, hw, hsn]; simp only [hu]; rw [if_neg (by omega), if_neg (fun z => hst z.2)])⟩
          have C2 : cd_ci (fun x => x = y) h (cd_si h y 7 (nI w)) := cd_ci.si rfl
          obtain ⟨B2, A2, -, O2, Ce2, Sp2⟩ := cc_R.k R hbd (c := 2) C2 (Or.inr (Or.inl rfl)) (fun x hx => by subst hx; exact ⟨d1, d2⟩)
          have enm : (AU.set a (sg_trd w u)).map sg_nm = AU.map sg_nm := sg_set_nm hu rfl
          have U2 : cc_aut (cd_si h y 7 (nI w)) now accs (AU.set a (sg_trd w u)) auts b2 c2 := by
            refine U.upd hy hu C2 (fun k hk => by rw [cd_i_si, if_neg (by omega)]) (by rw [cd_i_si, if_neg (by omega)]; exact d9) (by rw [cd_i_si, if_neg (by omega)]; exact d10) ?_ rfl rfl rfl ⟨d12, ?_, d15⟩ d16
            · rw [cd_i_si, if_pos ⟨rfl, rfl⟩]
              show nI w = if w + 1 = 0 then -1 else nI (w + 1 - 1)
              rw [if_neg (by omega)]
              rfl
            · show w + 1 ≤ 2
              omega
          have K := hq (cd_si h y 7 (nI w)) (cd_ch.si (Or.inr d1))
          have eR : sg_try T n life now AC AU OR CE us ct snd = (0, AC, AU.set a (sg_trd w u), OR, CE, us, ct, false) := by
            unfold sg_try
            rw [ha, hw, hsn]
            simp only [hu]
            rw [if_neg (by omega), if_pos ⟨heq, hst⟩]
          rw [eR] at K
          exact K ⟨_, _, _, _, _, _, _, _, _, _, _, _, B2, A2 (by decide), U2, O2 (by decide), (Ce2 (by decide)).nm enm, Sp2⟩ (S.ch C2.ch (by have := R.1.2.1; omega) (by omega)) (N.ch C2.ch (by have := R.1.2.1; omega) (by omega) (by omega))
      · unfold sg_try
        rw [ha, hw]
        simp only
        have h1w : 1 < w := by
          by_cases c : w ≤ 1
          · exact absurd rfl (hx w c)
          · omega
        rw [if_pos h1w]
end VTR
