section VMZ
variable {X : cd_E} {kc ks : Nat} {h h' : cd_H} {Q : Option Value → cd_H → Prop} {T : Nat → Nat} {n life now cr gv us w : Nat} {sp : Nat → Bool} {ct : Option Nat} {NW : Nat → Option Nat} {AC AC' : List sg_A} {AU AU' : List sg_U} {OR : List sg_O} {CE : List sg_C}
theorem cm_MF.dk {m x j : Nat} (z : cm_MF m x j) : cm_Dk x j := by
  rcases z with (z | z | z | z | z | z | z) | z | z <;> exact ⟨by omega, by omega, by omega⟩
theorem sp_Mod_ordering (R : cm_R h T n life now NW AC AU OR CE) (S : cm_sto h us ct) (N : cm_non h cr gv sp) (hcr : cr < 1000) {e0 : Nat} (hW : tx_W T n 0 = some e0) (hT : T 0 = 123) {ok : Bool} (hok : ∀ l, tx_z T n (sg_fl T n [110, 97, 109, 101, 115] (some 0)) = some l → (ok = true ↔ ((1 ≤ l.length ∧ l.length ≤ 3) ∧ sg_nok T n l))) {snd : Option Nat} (hs : ∀ i, snd = some i → i < AC.length) (hq : cm_Q Q h T n life now NW cr gv sp (sg_plc T n life now ok AC AU OR CE us ct snd)) : cd_W X m_Mod_ordering kc ks 0 [some (.ref 82), some (.int (cd_op snd)), none, none, none, none, none] [] h Q := by
  have F := R.1
  have Z := R.2.1
  have ho : ∀ v, (some 0 : Option Nat) = some v → ∃ e, tx_W T n v = some e := fun v hv => by cases hv; exact ⟨e0, hW⟩
  refine g_Mod_ordering F ?_
  show cd_W X m_Mod_field 0 0 0 [some (.ref 82), some (.int (nI 0)), some (.long 29733122803), none, none, none] [] h _
  refine sp_Mod_fld F Z (a := 8) (l := [110, 97, 109, 101, 115]) (by decide) hW hT (by decide) ⟨_, rfl, F, sp_Mod_strings F Z (sg_flo ho) (fun h0 C0 st => ⟨_, rfl, C0.mok F, ?_⟩)⟩
  have C0m : cm_ch cm_scr h h0 := C0.mch (fun j => Or.inl rfl)
  have R0 := R.scr C0m
  have S0 := S.scr C0m
  have N0 := N.scr C0m
  have C0d : cm_ch cm_Dk h h0 := C0m.sub (fun x j z => z.dk)
  have a1 := R0.2.2.2.2.2.1.1
  have same : ∀ r : Int32, sg_plc T n life now ok AC AU OR CE us ct snd = sg_same0 r AC AU OR CE us ct → ∀ hX, cm_ch cm_scr h hX → Q (some (.int r)) hX := fun r e hX CX => by
    have K := hq hX (CX.sub (fun x j z => z.dk))
    rw [e] at K
    exact K (R.scr CX) (S.scr CX) (N.scr CX)
  cases hz : tx_z T n (sg_fl T n [110, 97, 109, 101, 115] (some 0)) with
  | none => exact ⟨fun _ => same (-1) (by unfold sg_plc; rw [hz]) h0 C0m, fun t => absurd (show cd_op none < 1 by decide) t⟩
  | some l =>
  have hll := tx_z_len hz
  have hls := tx_z_s hz
  have hst := st l hz
  have elo : tx_lo (some l) = nI l.length := rfl
  have nokf : ¬ ((1 ≤ l.length ∧ l.length ≤ 3) ∧ sg_nok T n l) → sg_plc T n life now ok AC AU OR CE us ct snd = sg_same0 (-1) AC AU OR CE us ct := fun hnok => by
    have hokf : ok = false := by
      cases hb : ok with
      | false => rfl
      | true => exact absurd ((hok l hz).mp hb) hnok
    unfold sg_plc
    rw [hz, hokf]
    rfl
  rw [elo, show (1 : Int32) = nI 1 by decide, nI_ltI (by omega) (by decide), show (3 : Int32) = nI 3 by decide, nI_leI (by omega) (by decide)]
  refine ⟨fun t => same (-1) (nokf (fun z => by omega)) h0 C0m, fun t => ⟨fun t2 => ?_, fun t2 => same (-1) (nokf (fun z => by omega)) h0 C0m⟩⟩
  show cd_W X m_Mod_ordering kc ks 27 [some (.ref 82), some (.int (cd_op snd)), some (.int (nI l.length)), some (.int (nI 0)), none, none, none] [] h0 Q
  refine sp_Mod_ordering_27 R0.1 R0.2.1 ⟨by omega, t2⟩ hst hls (fun hnk => ?_) (fun hnk => same (-1) (nokf (fun z => hnk z.2)) h0 C0m)
  have hokt := (hok l hz).mpr ⟨⟨by omega, t2⟩, hnk⟩
  rw [cd_op_m1 (fun x hx => by have := hs x hx; omega)]
  refine ⟨fun hsn0 => ?_, fun hsn0 => same (-4) (by unfold sg_plc; rw [hz, hsn0, hokt]; rfl) h0 C0m⟩
  obtain ⟨i, hsn⟩ : ∃ i, snd = some i := by
    cases snd with
    | none => exact absurd rfl hsn0
    | some i => exact ⟨i, rfl⟩
  have hi := hs i hsn
  rw [hsn]
  have hnm : ∀ q, q ∈ l → tx_nm T q (sg_sl T n q) := fun q hq => by
    obtain ⟨k, hk⟩ := List.getElem?_of_mem hq
    exact hnk.1 k q hk
  generalize hPP : sg_pp T n life now AC AU i = P
  have hP : ∀ q, sg_pp T n life now AC AU i q = P q := fun q => by rw [hPP]
  have hwl := sg_wds_le (P := P) l (fun q hq => (hnm q hq).1.2)
  have hfl := sg_frs_le (P := P) l
  have eR : sg_plc T n life now ok AC AU OR CE us ct snd = if 12 ≤ OR.length ∨ 24 < AU.length + sg_frs P l then sg_same0 (-5) AC AU OR CE us ct else
    (sg_fr (sg_fate us ct (5 + sg_wds P T n l)) (nI OR.length), AC,
      (if sg_fc (sg_fate us ct (5 + sg_wds P T n l)) then (sg_mk P T n i now l (sg_fa (sg_fate us ct (5 + sg_wds P T n l)) AU)).1 else sg_fa (sg_fate us ct (5 + sg_wds P T n l)) AU),
      (if sg_fc (sg_fate us ct (5 + sg_wds P T n l)) then OR ++ [(i, now, (sg_mk P T n i now l (sg_fa (sg_fate us ct (5 + sg_wds P T n l)) AU)).2, none)] else OR), CE,
      sg_fu (sg_fate us ct (5 + sg_wds P T n l)) us (5 + sg_wds P T n l), sg_ft (sg_fate us ct (5 + sg_wds P T n l)) ct, sg_fx (sg_fate us ct (5 + sg_wds P T n l))) := by
    unfold sg_plc
    rw [hz, hsn, hokt]
    simp only [hPP]
    rfl
  have loop : ∀ r k w0 f0 (h1 : cd_H), r + k = l.length → w0 + sg_wds P T n (l.drop k) = 5 + sg_wds P T n l → f0 + sg_frs P (l.drop k) = sg_frs P l → cm_ch cm_scr h h1 → (∀ j q, l[j]? = some q → cd_i h1 112 j = nI q) → (∀ j q, j < k → l[j]? = some q → cd_i h1 113 j = cd_op (P q)) → cd_W X m_Mod_ordering kc ks 106 [some (.ref 82), some (.int (nI i)), some (.int (nI l.length)), some (.int (nI f0)), some (.int (nI w0)), some (.int (nI k)), none] [] h1 Q := by
    intro r
    induction r with
    | zero =>
      intro k w0 f0 h1 hk ew ef C1 e112 e113
      rw [List.drop_of_length_le (by omega), sg_wds, Nat.add_zero] at ew
      rw [List.drop_of_length_le (by omega), sg_frs, Nat.add_zero] at ef
      have R1 := R.scr C1
      have S1 := S.scr C1
      have N1 := N.scr C1
      have o1 := R1.2.2.2.2.2.2.2.1.1
      have u1 := R1.2.2.2.2.2.2.1.1
      have e17 : cd_i h1 82 17 = nI OR.length := R1.2.2.2.2.2.2.2.1.2.1
      have e23 : cd_i h1 82 23 = nI AU.length := R1.2.2.2.2.2.2.1.2.1
      rw [ew, ef]
      refine g_Mod_ordering_106 R1.1 ?_
      rw [nI_leI (by omega) (by omega), e17, show (12 : Int32) = nI 12 by decide, nI_eq (by omega) (by decide), e23, nI_add, show (24 : Int32) = nI 24 by decide, nI_ltI (by decide) (by omega)]
      refine ⟨fun _ => ⟨fun t => same (-5) (by rw [eR, if_pos (Or.inl (by omega))]) h1 C1, fun t => ⟨fun t2 => same (-5) (by rw [eR, if_pos (Or.inr (by omega))]) h1 C1, fun t2 => ?_⟩⟩, fun t => by omega⟩
      rw [if_neg (by omega)] at eR
      rw [eR] at hq
      have C1d : cm_ch cm_Dk h h1 := C1.sub (fun x j z => z.dk)
      refine sp_Mod_hasRoom R1.1 S1 (by omega) (fun hr => ⟨_, rfl, R1.1, fun _ => ?_, fun z => absurd z (by decide)⟩) (fun hr => ⟨_, rfl, R1.1, fun z => absurd rfl z, fun _ => ?_⟩)
      · refine sp_Mod_keepF R1 S1 N1 hcr hr (fun h1f h2 C2 R2 S2 N2 => ⟨_, rfl, R2.1, ?_⟩)
        have w112 : ∀ j q, l[j]? = some q → cd_i h2 112 j = nI q := fun j q hj => by
          rw [C2.2.2.2 112 j (fun z => by rcases z with z | z | z <;> omega)]
          exact e112 j q hj
        have w113 : ∀ j q, 0 ≤ j → l[j]? = some q → cd_i h2 113 j = cd_op (P q) := fun j q _ hj => by
          rw [C2.2.2.2 113 j (fun z => by rcases z with z | z | z <;> omega)]
          exact e113 j q (by have := (List.getElem?_eq_some_iff.mp hj).1; omega) hj
        generalize hf : sg_fate us ct (5 + sg_wds P T n l) = f at *
        have Cd : cm_ch cm_Dk h h2 := C1d.tr (C2.sub (fun x j z => z.dk))
        rw [N2.2.2.1, N1.2.2.1, sg_crq hcr]
        cases hfc : sg_fc f with
        | false =>
          have hx := sg_fcx h1f hf hfc
          refine ⟨fun _ => ⟨fun z => ?_, fun _ => ?_⟩, fun z => absurd rfl z⟩
          · rw [hx] at z; cases z
          · have K := hq h2 Cd
            simp only [hfc, sg_fr, hx] at K
            exact K R2 S2 (by simp only [hx] at N2; exact N2)
        | true =>
          refine ⟨fun z => absurd z (by decide), fun _ => g_Mod_make R2.1 ?_⟩
          have fal := sg_fa_len f AU
          show cd_W X m_Mod_make 0 0 2 [some (.ref 82), some (.int (nI i)), some (.int (nI l.length)), some (.int (nI 0)), none] [] h2 _
          refine sp_Mod_make_2 (P := P) (by omega) hi (by omega) hls (fun q hq => (hnm q hq).1.2) l.length 0 h2 (sg_fa f AU) [] (by omega) R2 w112 w113 (by rw [List.drop_zero]; omega) (fun q a ha => ?_) rfl (fun j p hj => by cases hj) (fun h3 C3 R3 => ⟨rfl, R3.1, ?_⟩)
          · rw [← hP q] at ha
            have := sg_fp_lt AU 0 a ha
            omega
          · rw [List.drop_zero, List.nil_append] at R3
            have n3 : ∀ x j, (x = 82 → ¬ j = 23 ∧ ¬ j = 17) → ¬ (92 ≤ x ∧ x ≤ 100) → ¬ x = 113 → cd_i h3 x j = cd_i h2 x j := fun x j q1 q2 q3 => C3.2.2.2 x j (cm_MF.no q1 q2 q3)
            have S3 : cm_sto h3 (sg_fu f us (5 + sg_wds P T n l)) (sg_ft f ct) := S2.of (fun j hj => n3 82 j (by omega) (by decide) (by decide))
            have N3 : cm_non h3 (sg_ncr (sg_fx f) cr) (sg_ngv (sg_fx f) gv) (sg_nsp (sg_fx f) sp) := N2.of (fun x j hx => n3 x j (by omega) (by omega) (by omega))
            have e17' : cd_i h3 82 17 = nI (OR.length + 1) := by
              have := R3.2.2.2.2.2.2.2.1.2.1
              rw [List.length_append, List.length_singleton] at this
              exact this
            rw [N3.2.2.1, sg_crq hcr, e17', nI_pred]
            have K := hq h3 (Cd.tr (C3.sub (fun x j z => z.dk)))
            simp only [hfc] at K
            have K2 := K R3 S3 N3
            cases hx : sg_fx f with
            | true =>
              simp only [sg_fr, hx] at K2
              exact ⟨fun z => (by cases z), fun _ => K2⟩
            | false =>
              simp only [sg_fr, hx, hfc] at K2
              exact ⟨fun _ => K2, fun z => absurd rfl z⟩
      · have hf := sg_fate1 (ct := ct) hr
        have K := hq h1 C1d
        simp only [hf] at K
        exact K R1 S1 N1
    | succ r ih =>
      intro k w0 f0 h1 hk ew ef C1 e112 e113
      have hlt : k < l.length := by omega
      have el : l[k]? = some l[k] := List.getElem?_eq_getElem hlt
      have hmem := List.getElem_mem hlt
      obtain ⟨c, hsx⟩ := hls _ hmem
      have hname := hnm _ hmem
      rw [List.drop_eq_getElem_cons hlt, sg_wds] at ew
      rw [List.drop_eq_getElem_cons hlt, sg_frs] at ef
      generalize hqq : l[k] = q at *
      have R1 := R.scr C1
      have u1 := R1.2.2.2.2.2.2.1.1
      refine g_Mod_ordering_106 R1.1 ?_
      have C2 : cm_ch cm_scr h1 (cd_si h1 113 k (-1)) := cm_ch.si (Or.inr (Or.inl rfl))
      have C12 := C1.tr C2
      have R2 := R.scr C12
      rw [nI_leI (by omega) (by omega), nI_clamp (by omega : k < 2 ^ 31), cd_ne (by decide), R1.2.2.2.2.2.2.1.2.1]
      refine ⟨fun t => by omega, fun _ => ⟨vp_in_nI (by omega) (by decide), ?_⟩⟩
      refine sp_Mod_ordering_128 (AC := AC) (AU := AU) (life := life) (now := now) (by omega) hsx (by omega) (by omega) hname.1.2 AU.length _ (Nat.le_refl _) R2.1 R2.2.1 R2.2.2.1 R2.2.2.2.2.2.1 R2.2.2.2.2.2.2.1 (by rw [cd_ne (by decide)]; exact e112 k q el) (by rw [List.drop_of_length_le (Nat.le_refl _), cd_i_si, if_pos ⟨rfl, rfl⟩]; rfl) (fun h3 C3 e3 => ?_)
      rw [hP q] at e3 ⊢
      have C13 : cm_ch cm_scr h1 h3 := C2.tr (C3.sub (fun x j z => Or.inr (Or.inl z.1)))
      have k3 : ∀ x j, ¬ (x = 113 ∧ j = k) → cd_i h3 x j = cd_i h1 x j := fun x j hx => by
        rw [C3.2.2.2 x j hx, cd_i_si, if_neg hx]
      refine ih (k + 1) _ _ h3 (by omega) ?_ ?_ (C1.tr C13) (fun j qq hj => ?_) (fun j qq hj hjq => ?_)
      · cases hPq : P q with
        | none => rw [hPq] at ew; simp only at ew ⊢; omega
        | some a => rw [hPq] at ew; simp only at ew ⊢; omega
      · cases hPq : P q with
        | none => rw [hPq] at ef; simp only at ef ⊢; omega
        | some a => rw [hPq] at ef; simp only at ef ⊢; omega
      · rw [k3 112 j (by omega)]
        exact e112 j qq hj
      · by_cases e : j = k
        · rw [e, el] at hjq
          cases hjq
          rw [e]
          exact e3
        · rw [k3 113 j (by omega)]
          exact e113 j qq (by omega) hjq
  have := loop l.length 0 5 0 h0 (by omega) (by rw [List.drop_zero]) (by rw [List.drop_zero, Nat.zero_add]) C0m (fun j q hj => hst j q hj (by have := (List.getElem?_eq_some_iff.mp hj).1; omega)) (fun j q hj => by omega)
  exact this
end VMZ
