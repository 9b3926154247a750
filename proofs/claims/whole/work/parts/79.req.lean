def sg_lowq (q : Nat ⊕ (Nat × Nat)) : Prop := match q with
  | .inl c => c = 0 ∨ c = 4 ∨ c = 5 ∨ c = 6 ∨ c = 9
  | .inr r => r.1 = 4 ∨ r.1 = 1 ∨ r.1 = 2 ∨ (r.1 = 0 ∧ r.2 < 80)
theorem cc_lowk {h : cd_H} (F : cc_ok h) {x : Nat} (h1 : 64 ≤ x) (h2 : x < 78) : ∃ q, cd_k h x = some q ∧ sg_lowq q := by
  have : x = 64 ∨ x = 65 ∨ x = 66 ∨ x = 67 ∨ x = 68 ∨ x = 69 ∨ x = 70 ∨ x = 71 ∨ x = 72 ∨ x = 73 ∨ x = 74 ∨ x = 75 ∨ x = 76 ∨ x = 77 := by omega
  rcases this with rfl | rfl | rfl | rfl | rfl | rfl | rfl | rfl | rfl | rfl | rfl | rfl | rfl | rfl
  · exact ⟨_, cc_k64 F, Or.inl rfl⟩
  · exact ⟨_, cc_k65 F, Or.inl rfl⟩
  · exact ⟨_, cc_k66 F, Or.inr (Or.inl rfl)⟩
  · exact ⟨_, cc_k67 F, Or.inr (Or.inl rfl)⟩
  · exact ⟨_, cc_k68 F, Or.inr (Or.inl rfl)⟩
  · exact ⟨_, cc_k69 F, Or.inr (Or.inl rfl)⟩
  · exact ⟨_, cc_k70 F, Or.inr (Or.inl rfl)⟩
  · exact ⟨_, cc_k71 F, Or.inr (Or.inr (Or.inr (Or.inl rfl)))⟩
  · exact ⟨_, cc_k72 F, Or.inr (Or.inl rfl)⟩
  · exact ⟨_, cc_k73 F, Or.inr (Or.inr (Or.inr ⟨rfl, by decide⟩))⟩
  · exact ⟨_, cc_k74 F, Or.inr (Or.inr (Or.inl rfl))⟩
  · exact ⟨_, cc_k75 F, Or.inr (Or.inr (Or.inl rfl))⟩
  · exact ⟨_, cc_k76 F, Or.inr (Or.inr (Or.inr (Or.inr rfl)))⟩
  · exact ⟨_, cc_k77 F, Or.inr (Or.inr (Or.inr ⟨rfl, by decide⟩))⟩
section VRQ
variable {X : cd_E} {kc ks : Nat} {h h' : cd_H} {Q : Option Value → cd_H → Prop} {A : Nat → Prop} {T T' : Nat → Nat} {n n' life now cr gv us w : Nat} {sp : Nat → Bool} {ct : Option Nat} {NW NW' : Nat → Option Nat} {AC : List sg_A} {AU AU' : List sg_U} {OR OR' : List sg_O} {CE : List sg_C} {accs auts ords cers : List Nat} {b1 c1 b2 c2 b3 c3 b4 c4 : Nat}
theorem cc_R.low (R : cc_R h T n life now NW AC AU OR CE accs auts ords cers b1 c1 b2 c2 b3 c3 b4 c4) (hbd : cd_bd h) (C : cd_ch A h h') (hA : ∀ x, A x → 64 ≤ x ∧ x < 78) (B' : cc_B h' T' n' life now NW') : cc_R h' T' n' life now NW' AC AU OR CE accs auts ords cers b1 c1 b2 c2 b3 c3 b4 c4 := by
  obtain ⟨B, Aa, U, O, Ce, Sp⟩ := R
  have nk : ∀ x q, cd_k h x = some q → ¬ sg_lowq q → ¬ A x := fun x q hx hq z => by
    obtain ⟨p, hp, hl⟩ := cc_lowk B.1 (hA x z).1 (hA x z).2
    rw [hx] at hp
    cases hp
    exact hq hl
  have ki : ∀ x c, cd_k h x = some (.inl c) → ¬ c = 0 → ¬ c = 4 → ¬ c = 5 → ¬ c = 6 → ¬ c = 9 → ¬ A x := fun x c hx h1 h2 h3 h4 h5 => nk x _ hx (fun z => by
    rcases z with z | z | z | z | z <;> omega)
  have lst : ∀ a l b cap, cc_lst h a l b cap → ¬ A a ∧ ¬ A b := fun a l b cap L => ⟨ki _ _ L.2.1 (by decide) (by decide) (by decide) (by decide) (by decide), nk _ _ L.2.2.2.2.1 (fun z => by
    rcases z with z | z | z | z
    · cases z
    · cases z
    · cases z
    · cases z.1)⟩
  have ka : ∀ x m, cd_k h x = some (.inr (3, m)) → ¬ A x := fun x m hx => nk x _ hx (fun z => by
    rcases z with z | z | z | z
    · cases z
    · cases z
    · cases z
    · cases z.1)
  have ko : ∀ x, cd_k h x = some (.inr (0, 80)) → ¬ A x := fun x hx => nk x _ hx (fun z => by
    rcases z with z | z | z | z
    · cases z
    · cases z
    · cases z
    · exact absurd z.2 (by decide))
  refine ⟨B', Aa.ch hbd C (lst _ _ _ _ Aa.2.1).1 (lst _ _ _ _ Aa.2.1).2 (fun x hx hk => ki x _ hk (by decide) (by decide) (by decide) (by decide) (by decide) hx), U.ch hbd C (lst _ _ _ _ U.2.1).1 (lst _ _ _ _ U.2.1).2 (fun x hx => ⟨fun hk => ki x _ hk (by decide) (by decide) (by decide) (by decide) (by decide) hx, fun hk => ki x _ hk (by decide) (by decide) (by decide) (by decide) (by decide) hx, fun m hk => ka x m hk hx⟩), ?_, cc_cer.ch Ce hbd C (lst _ _ _ _ Ce.2.1).1 (lst _ _ _ _ Ce.2.1).2 (fun x hx => ⟨fun hk => ki x _ hk (by decide) (by decide) (by decide) (by decide) (by decide) hx, fun hk => ki x _ hk (by decide) (by decide) (by decide) (by decide) (by decide) hx, fun hk => ko x hk hx⟩), Sp.of (fun x hx => ?_) (fun a ha => ?_)⟩
  · refine O.ch hbd C (lst _ _ _ _ O.2.1).1 (lst _ _ _ _ O.2.1).2 (fun x hx hk => ki x _ hk (by decide) (by decide) (by decide) (by decide) (by decide) hx) (fun y pl hy hpl => ?_)
    obtain ⟨-, pl', l, pb, pcap, d1, d2, d3⟩ := O.mem hy
    cases d1.symm.trans hpl
    exact ⟨(lst _ _ _ _ d3).1, fun pb' hpb => by cases d3.2.2.2.1.symm.trans hpb; exact (lst _ _ _ _ d3).2⟩
  · have k8 := (O.mem hx).1.1
    exact (C.2.2 x (hbd _ _ k8) (ki x _ k8 (by decide) (by decide) (by decide) (by decide) (by decide))).2.2 2
  · obtain ⟨l, b, cap, L⟩ := cc_isl.lst Aa U O Ce ha
    exact (C.2.2 a (hbd _ _ L.2.1) (lst _ _ _ _ L).1).2.2 0
theorem cc_P.clr (P : cc_P h T n life now NW AC AU OR CE) (hbd : cd_bd h) : cc_P (cd_si h 71 1 0) T 0 life now NW AC AU OR CE := by
  obtain ⟨accs, auts, ords, cers, b1, c1, b2, c2, b3, c3, b4, c4, R⟩ := P
  have C : cd_ch (fun x => x = 71) h (cd_si h 71 1 0) := cd_ch.si rfl
  obtain ⟨F, hn, Ft, Cs, Ky, Kk, K, W, Z⟩ := R.1
  refine ⟨accs, auts, ords, cers, b1, c1, b2, c2, b3, c3, b4, c4, R.low hbd C (fun x hx => by omega) ⟨F.of rfl rfl, hn, Ft.ch C (by omega) (fun x hx => by omega), Cs.ch C (by omega) (fun x hx => by omega), Ky.ch C (by omega) (fun x h1 h2 => by omega), Kk.ch C (by omega) (fun x h1 h2 => by omega), K.ch C (by omega) (by decide), W.ch C (by omega) (by decide), Nat.zero_le _, ?_, fun j hj => by omega, fun j hj => by omega⟩⟩
  rw [cd_i_si, if_pos ⟨rfl, rfl⟩]
  rfl
def cc_Dq (x : Nat) : Prop := (64 ≤ x ∧ x < 82) ∨ 114 ≤ x
def sg_sn (y : Int32) : Option Nat := if y = -1 then none else some (sg_ix y)
theorem sp_Desk_request (P : cc_P h T n life now NW AC AU OR CE) (S : cc_sto h us ct) (N : cc_non h cr gv sp) (hcr : cr < 1000) (I : sg_I AC AU OR CE) {ob ok : Bool} (hob : ob = true ↔ sg_obj T n) (hok : ∀ l, tx_z T n (sg_fl T n [110, 97, 109, 101, 115] (some 0)) = some l → (ok = true ↔ ((1 ≤ l.length ∧ l.length ≤ 3) ∧ sg_nok T n l))) {x1 x2 x3 x4 : Int32}
    (h7 : sg_ck x1 = none → ∀ h', cd_ch cc_Dq h h' → cc_P h' T 0 life now NW AC AU OR CE → cc_sto h' us ct → cc_non h' cr gv sp → cd_i h' 64 13 = cd_i h 64 13 → Q (some (.int (-7))) h')
    (h2 : ∀ k, k < 4 → x1 = nI k → ¬ tx_good cr gv sp x2 → ∀ h', cd_ch cc_Dq h h' → cc_P h' T 0 life now NW AC AU OR CE → cc_sto h' us ct → cc_non h' cr gv sp → cd_i h' 64 13 = nI (sg_sig k (sg_rq T n x2 x3)) → Q (some (.int (-2))) h')
    (h3 : ∀ k p, k < 4 → x1 = nI k → p < gv → x2 = nI (1000 * cr + p) → sp p = false → ¬ sg_adm AC k x3 x4 (sg_rq T n x2 x3) → ∀ h', cd_ch cc_Dq h h' → cc_P h' T 0 life now NW AC AU OR CE → cc_sto h' us ct → cc_non h' cr gv (fun j => if j = p then true else sp j) → cd_i h' 64 13 = nI (sg_sig k (sg_rq T n x2 x3)) → Q (some (.int (-3))) h')
    (h0 : ∀ k p, k < 4 → x1 = nI k → p < gv → x2 = nI (1000 * cr + p) → sp p = false → sg_adm AC k x3 x4 (sg_rq T n x2 x3) → ∀ Rs : sg_Rs, Rs = sg_prm T n life now ob ok AC AU OR CE us ct (sg_sn x3) k → ∀ h', cd_ch cc_Dq h h' → cc_P h' T 0 life now NW Rs.2.1 Rs.2.2.1 Rs.2.2.2.1 Rs.2.2.2.2.1 → cc_sto h' Rs.2.2.2.2.2.1 Rs.2.2.2.2.2.2.1 → cc_non h' (sg_ncr Rs.2.2.2.2.2.2.2 cr) (sg_ngv Rs.2.2.2.2.2.2.2 gv) (sg_nsp Rs.2.2.2.2.2.2.2 (fun j => if j = p then true else sp j)) → cd_i h' 64 13 = nI (sg_sig k (sg_rq T n x2 x3)) → Q (some (.int Rs.1)) h') :
    cd_W X m_Desk_request (kc + 81) (ks + 2240) 0 [some (.ref 64), some (.int x1), some (.int x2), some (.int x3), some (.int x4), none, none] [] h Q := by
  refine cd_W.bd (fun hbd => ?_)
  have P0 := P
  obtain ⟨accs, auts, ords, cers, b1, c1, b2, c2, b3, c3, b4, c4, R⟩ := P
  have F := R.1.1
  have hn := R.1.2.1
  have clrC : ∀ (h1 : cd_H), cd_ch cc_Dq h h1 → cd_ch cc_Dq h (cd_si h1 71 1 0) := fun h1 C => C.tr (cd_ch.si (Or.inl (by decide)))
  have clrS : ∀ (h1 : cd_H) a b, cc_sto h1 a b → cc_sto (cd_si h1 71 1 0) a b := fun h1 a b S' => ⟨S'.1, by rw [cd_ne (by decide)]; exact S'.2.1, by rw [cd_ne (by decide)]; exact S'.2.2.1, S'.2.2.2⟩
  have clrN : ∀ (h1 : cd_H) a b c, cc_non h1 a b c → cc_non (cd_si h1 71 1 0) a b c := fun h1 a b c N' => ⟨N'.1, N'.2.1, by rw [cd_ne (by decide)]; exact N'.2.2.1, by rw [cd_ne (by decide)]; exact N'.2.2.2.1, fun k hk => by rw [cd_ne (by decide)]; exact N'.2.2.2.2 k hk⟩
  have clr13 : ∀ h1 : cd_H, cd_i (cd_si h1 71 1 0) 64 13 = cd_i h1 64 13 := fun h1 => cd_ne (by decide) _ _ _ _
  refine g_Desk_request F (sp_Desk_clientKey F ⟨_, rfl, F, fun hnone => ?_, fun b hb => ?_⟩)
  · exact g_Not_clear F ⟨rfl, F.of rfl rfl, h7 hnone _ (clrC h (cd_ch.rf _ _)) (P0.clr hbd) (clrS _ _ _ S) (clrN _ _ _ _ N) (clr13 h)⟩
  · have hk4 : sg_ix x1 < 4 := by
      unfold sg_ck at hb
      by_cases e : sg_ix x1 < 4
      · exact e
      · rw [if_neg e] at hb
        cases hb
    unfold sg_ck at hb
    rw [if_pos hk4] at hb
    cases hb
    have hx1 : x1 = nI (sg_ix x1) := sg_ix_of hk4 (by decide)
    have sub64 : ∀ (B : Nat → Prop) (h1 : cd_H), cd_ch B h h1 → (∀ x, B x → x = 64 ∨ x = 75) → cd_n h1 = cd_n h → cc_ok h1 → (∀ j, ¬ j = 13 → cd_i h1 64 j = cd_i h 64 j) → cd_ch cc_Dq h h1 ∧ cc_sto h1 us ct ∧ cc_R h1 T n life now NW AC AU OR CE accs auts ords cers b1 c1 b2 c2 b3 c3 b4 c4 := fun B h1 C hB en F1 e13 => by
      obtain ⟨F, hn, Ft, Cs, Ky, Kk, K, W, Z⟩ := R.1
      have no : ∀ x, ¬ x = 64 → ¬ x = 75 → ¬ B x := fun x a b z => by
        rcases hB x z with e | e
        · exact a e
        · exact b e
      refine ⟨(cd_ch.rf cc_Dq h).old C (fun x _ hx => by rcases hB x hx with rfl | rfl <;> exact Or.inl (by decide)), S.ch C (by omega) (no _ (by decide) (by decide)), R.low hbd C (fun x hx => by rcases hB x hx with rfl | rfl <;> decide) ⟨F1, by omega, Ft.ch C (by omega) (fun x hx => no x (by omega) (by omega)), Cs.ch C (by omega) (fun x hx => no x (by omega) (by omega)), Ky.ch C (by omega) (fun x h1 h2 => no x (by omega) (by omega)), Kk.ch C (by omega) (fun x h1 h2 => no x (by omega) (by omega)), ⟨K.1, K.2.1, by rw [e13 0 (by decide)]; exact K.2.2.1, by rw [e13 12 (by decide)]; exact K.2.2.2⟩, W.ch C (by omega) (no _ (by decide) (by decide)), Z.ch2 C (by omega) (no _ (by decide) (by decide)) (no _ (by decide) (by decide))⟩⟩
    refine sp_Desk_admit F (by omega) R.1.2.2.2.2.2.2.2.2 R.1.2.2.2.2.1 N R.2.1 hk4 (fun hng h1 C1 en F1 e13 eo => ⟨_, rfl, F1, fun _ => ?_, fun z => absurd z (by decide)⟩) (fun p hp ex sp0 h1 C1 en F1 e13 eo N1 r hr0 hr3 => ⟨_, rfl, F1, fun hrn => ?_, fun hrz => ?_⟩)
    · obtain ⟨D1, S1, R1⟩ := sub64 _ h1 C1 (fun x hx => Or.inl hx) en F1 eo
      refine cd_W.bd (fun bd1 => g_Not_clear F1 ⟨rfl, F1.of rfl rfl, h2 _ hk4 hx1 hng _ (clrC h1 D1) (cc_P.clr ⟨_, _, _, _, _, _, _, _, _, _, _, _, R1⟩ bd1) (clrS _ _ _ S1) (clrN _ _ _ _ (N.ch C1 (by omega) (by decide) (by decide))) ((clr13 h1).trans e13)⟩)
    · obtain ⟨D1, S1, R1⟩ := sub64 _ h1 C1 (fun x hx => hx) en F1 eo
      have nad : ¬ sg_adm AC (sg_ix x1) x3 x4 (sg_rq T n x2 x3) := fun z => hrn (hr0 z)
      have er := hr3 nad
      subst er
      refine cd_W.bd (fun bd1 => g_Not_clear F1 ⟨rfl, F1.of rfl rfl, h3 _ p hk4 hx1 hp ex sp0 nad _ (clrC h1 D1) (cc_P.clr ⟨_, _, _, _, _, _, _, _, _, _, _, _, R1⟩ bd1) (clrS _ _ _ S1) (clrN _ _ _ _ N1) ((clr13 h1).trans e13)⟩)
    · obtain ⟨D1, S1, R1⟩ := sub64 _ h1 C1 (fun x hx => hx) en F1 eo
      have ad : sg_adm AC (sg_ix x1) x3 x4 (sg_rq T n x2 x3) := Classical.byContradiction (fun z => by
        rw [hr3 z] at hrz
        exact absurd hrz (by decide))
      have hsn : ∀ i, sg_sn x3 = some i → i < AC.length := fun i hi => by
        unfold sg_sn at hi
        by_cases e : x3 = -1
        · rw [if_pos e] at hi
          cases hi
        · rw [if_neg e] at hi
          cases hi
          obtain ⟨c, hc, _⟩ := ad
          unfold sg_who at hc
          rw [if_neg e] at hc
          cases hac : AC[sg_ix x3]? with
          | none => rw [hac] at hc; cases hc
          | some a => exact (List.getElem?_eq_some_iff.mp hac).1
      have ebind : accs[sg_ix x3]? = (sg_sn x3).bind (fun i => accs[i]?) := by
        unfold sg_sn
        by_cases e : x3 = -1
        · rw [if_pos e, e]
          have a1 := R.2.1.1
          have a3 := R.2.1.2.2.1
          exact sg_ix_neg (by decide) (by omega)
        · rw [if_neg e]
          rfl
      refine sp_Desk_accountAt F1 R1.2.1 ⟨_, rfl, F1, ?_⟩
      rw [ebind]
      refine sp_Desk_perform (kc := 0) (ks := 0) (ob := ob) (ok := ok) R1 S1 N1 hcr I hob hok hsn hk4 (fun h4 C4 P4 S4 N4 => ⟨_, rfl, ?_⟩)
      have P4c := P4
      obtain ⟨_, _, _, _, _, _, _, _, _, _, _, _, R4⟩ := P4c
      refine ⟨R4.1.1, cd_W.bd (fun bd4 => g_Not_clear R4.1.1 ⟨rfl, R4.1.1.of rfl rfl, h0 _ p hk4 hx1 hp ex sp0 ad _ rfl _ (clrC h4 (D1.old C4 (fun x _ hx => ?_))) (P4.clr bd4) (clrS _ _ _ S4) (clrN _ _ _ _ N4) ?_⟩)⟩
      · rcases hx with hx | hx
        · exact Or.inl (by omega)
        · exact Or.inr hx
      · rw [clr13 h4, (C4.2.2 64 (by omega) (fun zz => by rcases zz with zz | zz <;> omega)).1]
        exact e13
end VRQ
