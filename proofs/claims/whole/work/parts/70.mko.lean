theorem g_Desk_makeOrder_16x {X : cd_E} {kc ks : Nat} {h : cd_H} {Q : Option Value → cd_H → Prop} {v1 : Nat} {v2 : Int32} {v3 : Nat} {v4 : Int32} (t : v2 ≤ v4) (H : Q (some (.ref v3)) h) : cd_W X m_Desk_makeOrder kc ks 16 [some (.ref 64), some (.ref v1), some (.int v2), some (.ref v3), some (.int v4), none, none] [] h Q := by
  refine cd_iload (i := 4) d_Desk_makeOrder_16 rfl ?_
  show cd_W X m_Desk_makeOrder kc ks 18 [some (.ref 64), some (.ref v1), some (.int v2), some (.ref v3), some (.int v4), none, none] [.int v4] h Q
  refine cd_iload_n (i := 2) d_Desk_makeOrder_18 rfl rfl ?_
  refine cd_icmp_ge (tgt := 122) d_Desk_makeOrder_19 (by decide) (fun t1 => ?_) (fun t1 => absurd t t1)
  refine cd_aload_n (i := 3) (v := .ref v3) d_Desk_makeOrder_122 rfl rfl (cd_isr_ref _) ?_
  exact cd_aret d_Desk_makeOrder_123 rfl (Or.inl ⟨_, rfl⟩) (cd_isr_ref _) H
theorem sg_same_rf (v : sg_U) : sg_same v v = true := sg_same_iff.mpr ⟨rfl, fun _ _ => rfl⟩
theorem sg_pl_old {AU : List sg_U} {u v : sg_U} {i : Nat} (hu : AU[i]? = some u) : sg_pl (AU ++ [v]) u = sg_pl AU u := by
  have h1 := sg_pl_le hu
  have h2 := (List.getElem?_eq_some_iff.mp hu).1
  unfold sg_pl at *
  rw [List.findIdx_append, if_pos (by omega)]
theorem sg_pl_new {AU : List sg_U} {v : sg_U} : sg_pl (AU ++ [v]) v = sg_pl AU v := by
  unfold sg_pl
  rw [List.findIdx_append]
  split
  · rfl
  · rename_i hlt
    have h2 : AU.findIdx (fun u => sg_same u v) ≤ AU.length := List.findIdx_le_length
    rw [List.findIdx_cons, sg_same_rf v]
    simp only [cond_true]
    omega
def cc_mk (h : cd_H) (now ox z pl pb pcap : Nat) (cells : List Nat) : Prop := (114 ≤ ox ∧ cd_k h ox = some (.inl 8) ∧ cd_r h ox 0 = some z ∧ cd_i h ox 1 = nI now ∧ cd_r h ox 2 = some pl ∧ cd_i h ox 3 = -1) ∧ 114 ≤ pl ∧ cc_lst h pl cells pb pcap
def cc_mx (h : cd_H) (ords : List Nat) (pl : Nat) : Prop := cc_sp h (fun a => cc_isl h ords a ∨ a = pl) ∧ ¬ cc_isl h ords pl
def cc_MK (x : Nat) : Prop := x = 80 ∨ 114 ≤ x
section VMK
variable {X : cd_E} {kc ks : Nat} {h h' : cd_H} {Q : Option Value → cd_H → Prop} {A : Nat → Prop} {T : Nat → Nat} {n life now cr gv us w : Nat} {sp : Nat → Bool} {ct : Option Nat} {NW : Nat → Option Nat} {AC : List sg_A} {AU AU' : List sg_U} {OR : List sg_O} {CE : List sg_C} {accs auts ords cers : List Nat} {b1 c1 b2 c2 b3 c3 b4 c4 : Nat}
theorem cc_aut.push (U : cc_aut h now accs AU auts b2 c2) (hbd : cd_bd h) (hl : AU.length < 24) {b' cap' nn z s sb : Nat} {v : sg_U} (C : cd_ch A h h') (hA : ∀ x, A x → ¬ cd_k h x = some (.inl 2) ∧ ¬ cd_k h x = some (.inl 13) ∧ ∀ n, ¬ cd_k h x = some (.inr (3, n))) (L' : cc_lst h' 80 (auts ++ [nn]) b' cap') (hn : 114 ≤ nn) (hnn : cd_n h ≤ nn) (k1 : cd_k h' nn = some (.inl 2)) (i0 : cd_i h' nn 0 = nI AU.length) (hz : accs[sgu_own v]? = some z) (r1 : cd_r h' nn 1 = some z) (r2 : cd_r h' nn 2 = some s) (S : cc_str h' s (sgu_N v) (sgu_len v)) (s1 : 114 ≤ s) (s2 : cd_r h' s 0 = some sb) (s3 : 114 ≤ sb) (i3 : cd_i h' nn 3 = nI (sgu_made v)) (i4 : cd_i h' nn 4 = nI (sg_pl AU v)) (i5 : cd_i h' nn 5 = nI (sg_dc (sgu_dec v))) (i6 : cd_i h' nn 6 = nI (sgu_since v)) (i7 : cd_i h' nn 7 = (if sgu_tri v = 0 then -1 else nI (sgu_tri v - 1))) (d : sgu_dec v ≤ 2 ∧ sgu_tri v ≤ 2 ∧ sgu_made v ≤ now ∧ sgu_since v ≤ now) (d0 : sgu_dec v = 0 → sgu_since v = sgu_made v) (dl : 1 ≤ sgu_len v ∧ sgu_len v ≤ 12) : cc_aut h' now accs (AU ++ [v]) (auts ++ [nn]) b' cap' := by
  have U0 := U
  obtain ⟨u1, u2, u3, u4, u5⟩ := U
  refine ⟨by rw [List.length_append, List.length_singleton]; omega, L', by rw [List.length_append, List.length_append, List.length_singleton, List.length_singleton]; omega, sg_push u4 (fun z => by have := hbd _ _ (U0.mem z).1; omega), fun i x a hx ha => ?_⟩
  by_cases e : i < auts.length
  · rw [List.getElem?_append_left e] at hx
    rw [List.getElem?_append_left (by omega)] at ha
    obtain ⟨⟨e1, e2, e3⟩, ⟨z', e4, e5⟩, ⟨s', sb', e6, e6b, e6c, e6d, e6e⟩, e7, e8, e9, e10, e11, e12⟩ := u5 i x a hx ha
    have hx2 := hbd _ _ e2
    obtain ⟨p1, p2, p3⟩ := C.2.2 x hx2 (fun w => (hA x w).1 e2)
    have hs2 := hbd _ _ e6b.1
    obtain ⟨q1, q2, q3⟩ := C.2.2 s' hs2 (fun w => (hA s' w).2.1 e6b.1)
    exact ⟨⟨e1, by rw [C.2.1 x hx2]; exact e2, by rw [p1]; exact e3⟩, ⟨z', e4, by rw [p3]; exact e5⟩, ⟨s', sb', by rw [p3]; exact e6, e6b.ch C hbd (fun y hy => ⟨(hA y hy).2.1, (hA y hy).2.2⟩), e6c, by rw [q3]; exact e6d, e6e⟩, by rw [p1]; exact e7, by rw [p1, sg_pl_old ha]; exact e8, by rw [p1]; exact e9, by rw [p1]; exact e10, by rw [p1]; exact e11, e12⟩
  · have hi := (List.getElem?_eq_some_iff.mp hx).1
    rw [List.length_append, List.length_singleton] at hi
    have ei : i = auts.length := by omega
    rw [ei, List.getElem?_append_right (Nat.le_refl _), Nat.sub_self] at hx
    rw [ei, u3, List.getElem?_append_right (Nat.le_refl _), Nat.sub_self] at ha
    cases hx
    cases ha
    rw [ei, u3]
    exact ⟨⟨hn, k1, i0⟩, ⟨z, hz, r1⟩, ⟨s, sb, r2, S, s1, s2, s3⟩, i3, by rw [sg_pl_new]; exact i4, i5, i6, i7, d, d0, dl⟩
theorem sg_pc_app {ps : List Nat} {y : Nat} (hp : ∀ p, p ∈ ps → p < auts.length) : sg_pc (auts ++ [y]) ps = sg_pc auts ps := by
  unfold sg_pc
  apply List.map_congr_left
  intro p hp2
  have := hp p hp2
  rw [List.getD_eq_getElem?_getD, List.getD_eq_getElem?_getD, List.getElem?_append_left this]
theorem cc_ord.aut {y : Nat} (O : cc_ord h now accs auts OR ords b3 c3) : cc_ord h now accs (auts ++ [y]) OR ords b3 c3 := by
  obtain ⟨u1, u2, u3, u4, u5⟩ := O
  refine ⟨u1, u2, u3, u4, fun i x o hx ho => ?_⟩
  obtain ⟨d1, d3, d4, d5, d6, d7, ⟨pl, pb, pcap, d8, d8b, d8c⟩, d9⟩ := u5 i x o hx ho
  exact ⟨d1, d3, d4, d5, d6, fun p hp => by have := d7 p hp; rw [List.length_append]; omega, ⟨pl, pb, pcap, d8, d8b, by rw [sg_pc_app d7]; exact d8c⟩, d9⟩
theorem cc_cer.aut {v : sg_U} (Ce : cc_cer h now accs AU OR CE cers b4 c4) (hp : ∀ (i : Nat) (o : sg_O), OR[i]? = some o → ∀ p, p ∈ sgo_parts o → p < AU.length) : cc_cer h now accs (AU ++ [v]) OR CE cers b4 c4 := by
  obtain ⟨u1, u2, u3, u4, u5⟩ := Ce
  refine ⟨u1, u2, u3, u4, fun i x c hx hc => ?_⟩
  have e : sg_crC (AU ++ [v]) OR i c = sg_crC AU OR i c := by
    unfold sg_crC sg_nms
    cases ho : OR[sgc_ord c]? with
    | none => rfl
    | some o =>
      simp only
      have : (sgo_parts o).map (sg_nmU (AU ++ [v])) = (sgo_parts o).map (sg_nmU AU) := by
        apply List.map_congr_left
        intro p hp2
        unfold sg_nmU
        rw [List.getElem?_append_left (hp _ o ho p hp2)]
      rw [this]
  rw [e]
  exact u5 i x c hx hc
theorem cc_R.nw (R : cc_R h T n life now NW AC AU OR CE accs auts ords cers b1 c1 b2 c2 b3 c3 b4 c4) (hbd : cd_bd h) (C : cd_ch (fun _ => False) h h') : cc_R h' T n life now NW AC AU OR CE accs auts ords cers b1 c1 b2 c2 b3 c3 b4 c4 :=
  R.oth hbd C (R.1.1.ch C (fun _ _ z => z) (by have := R.1.2.1; omega)) (fun _ _ z => z.elim) (fun _ _ z => z.elim) (R.2.2.1.ch hbd C (fun z => z) (fun z => z) (fun _ z => z.elim)) rfl
theorem cc_R.ex (R : cc_R h T n life now NW AC AU OR CE accs auts ords cers b1 c1 b2 c2 b3 c3 b4 c4) (hbd : cd_bd h) {pl pb pcap : Nat} {cells : List Nat} (Lp : cc_lst h pl cells pb pcap) (h114 : 114 ≤ pl) (E : cc_mx h ords pl) (C : cd_ch (fun x => x = pl ∨ (x = pb ∧ 64 ≤ pb)) h h') : cc_R h' T n life now NW AC AU OR CE accs auts ords cers b1 c1 b2 c2 b3 c3 b4 c4 := by
  obtain ⟨B, Aa, U, O, Ce, Sp⟩ := R
  have hn : 114 ≤ cd_n h := B.2.1
  have lst : ∀ a' l' b' cap', cc_isl h ords a' → cc_lst h a' l' b' cap' → ¬ (a' = pl ∨ (a' = pb ∧ 64 ≤ pb)) ∧ ¬ (b' = pl ∨ (b' = pb ∧ 64 ≤ pb)) := fun a' l' b' cap' hi L => by
    refine ⟨fun z => ?_, fun z => ?_⟩
    · rcases z with z | z
      · exact E.2 (by rw [← z]; exact hi)
      · have := L.2.1
        rw [z.1, Lp.2.2.2.2.1] at this
        cases this
    · rcases z with z | z
      · have := L.2.2.2.2.1
        rw [z, Lp.2.1] at this
        cases this
      · have e := E.1.1 a' pl pb (Or.inl hi) (Or.inr rfl) (by rw [← z.1]; exact L.2.2.2.1) Lp.2.2.2.1 z.2
        exact E.2 (by rw [← e]; exact hi)
  have kin : ∀ x q, cd_k h x = some (.inl q) → ¬ q = 12 → ¬ (x = pl ∨ (x = pb ∧ 64 ≤ pb)) := fun x q hx h1 z => by
    rcases z with z | z
    · rw [z, Lp.2.1] at hx; cases hx; exact h1 rfl
    · rw [z.1, Lp.2.2.2.2.1] at hx; cases hx
  have kar : ∀ x q m, cd_k h x = some (.inr (q, m)) → ¬ q = 5 → ¬ (x = pl ∨ (x = pb ∧ 64 ≤ pb)) := fun x q m hx h1 z => by
    rcases z with z | z
    · rw [z, Lp.2.1] at hx; cases hx
    · rw [z.1, Lp.2.2.2.2.1] at hx; cases hx; exact h1 rfl
  have hA : ∀ x, (x = pl ∨ (x = pb ∧ 64 ≤ pb)) → 114 ≤ x := fun x hx => by
    rcases hx with rfl | ⟨rfl, hx⟩
    · exact h114
    · exact E.1.2 pl x (Or.inr rfl) Lp.2.2.2.1 hx
  have nA : ∀ x, x < 114 → ¬ (x = pl ∨ (x = pb ∧ 64 ≤ pb)) := fun x hx z => by have := hA x z; omega
  have F' : cc_ok h' := B.1.ch2 C (by omega) (nA 64 (by decide)) (nA 65 (by decide)) (nA 71 (by decide)) (nA 74 (by decide))
  refine ⟨cc_B.ch B C F' (fun x hx => Or.inr (hA x hx)), ?_, ?_, ?_, ?_, ?_⟩
  · have L := lst _ _ _ _ (Or.inl rfl) Aa.2.1
    exact Aa.ch hbd C L.1 L.2 (fun x hx hk => kin x _ hk (by decide) hx)
  · have L := lst _ _ _ _ (Or.inr (Or.inr (Or.inl rfl))) U.2.1
    exact U.ch hbd C L.1 L.2 (fun x hx => ⟨fun hk => kin x _ hk (by decide) hx, fun hk => kin x _ hk (by decide) hx, fun m hk => kar x _ _ hk (by decide) hx⟩)
  · have L := lst _ _ _ _ (Or.inr (Or.inl rfl)) O.2.1
    refine O.ch hbd C L.1 L.2 (fun x hx hk => kin x _ hk (by decide) hx) (fun y pl' hy hpl => ?_)
    obtain ⟨-, pl2, l', pb2, pcap2, d1, d2, d3⟩ := O.mem hy
    cases d1.symm.trans hpl
    have L2 := lst _ _ _ _ (Or.inr (Or.inr (Or.inr (Or.inr ⟨y, hy, hpl⟩)))) d3
    exact ⟨L2.1, fun pb' hpb => by cases d3.2.2.2.1.symm.trans hpb; exact L2.2⟩
  · have L := lst _ _ _ _ (Or.inr (Or.inr (Or.inr (Or.inl rfl)))) Ce.2.1
    exact cc_cer.ch Ce hbd C L.1 L.2 (fun x hx => ⟨fun hk => kin x _ hk (by decide) hx, fun hk => kin x _ hk (by decide) hx, fun hk => kar x _ _ hk (by decide) hx⟩)
  · refine Sp.of (fun x hx => ?_) (fun a ha => ?_)
    · have k8 := (O.mem hx).1.1
      exact (C.2.2 x (hbd _ _ k8) (kin x 8 k8 (by decide))).2.2 2
    · obtain ⟨l', b'', cap', L⟩ := cc_isl.lst Aa U O Ce ha
      exact (C.2.2 a (hbd _ _ L.2.1) (lst _ _ _ _ ha L).1).2.2 0
theorem cc_mx.add (R : cc_R h T n life now NW AC AU OR CE accs auts ords cers b1 c1 b2 c2 b3 c3 b4 c4) (hbd : cd_bd h) {pl pb pcap a b cap b' : Nat} {cells l : List Nat} (Lp : cc_lst h pl cells pb pcap) (E : cc_mx h ords pl) (ha : cc_isl h ords a ∨ a = pl) (La : cc_lst h a l b cap) (C : cd_ch (fun x => x = a ∨ (x = b ∧ 64 ≤ b)) h h') (hb1 : cd_r h' a 0 = some b') (hb2 : b' = b ∨ cd_n h ≤ b') : cc_mx h' ords pl := by
  obtain ⟨B, Aa, U, O, Ce, Sp⟩ := R
  have hn : 114 ≤ cd_n h := B.2.1
  have lst : ∀ x, cc_isl h ords x ∨ x = pl → ∃ l b cap, cc_lst h x l b cap := fun x hx => by
    rcases hx with hx | rfl
    · exact cc_isl.lst Aa U O Ce hx
    · exact ⟨_, _, _, Lp⟩
  have nA : ∀ x, cc_isl h ords x ∨ x = pl → ¬ x = a → ¬ (x = a ∨ (x = b ∧ 64 ≤ b)) := fun x hx hne z => by
    rcases z with z | z
    · exact hne z
    · obtain ⟨l', b'', cap', L⟩ := lst x hx
      have := L.2.1
      rw [z.1, La.2.2.2.2.1] at this
      cases this
  have ordr : ∀ x, x ∈ ords → cd_r h' x 2 = cd_r h x 2 := fun x hx => by
    have k8 := (O.mem hx).1.1
    refine (C.2.2 x (hbd _ _ k8) (fun z => ?_)).2.2 2
    rcases z with z | z
    · rw [z, La.2.1] at k8; cases k8
    · rw [z.1, La.2.2.2.2.1] at k8; cases k8
  have isl : ∀ x, cc_isl h' ords x → cc_isl h ords x := fun x hx => by
    rcases hx with ha | ha | ha | ha | ⟨y, hy, ha⟩
    · exact Or.inl ha
    · exact Or.inr (Or.inl ha)
    · exact Or.inr (Or.inr (Or.inl ha))
    · exact Or.inr (Or.inr (Or.inr (Or.inl ha)))
    · exact Or.inr (Or.inr (Or.inr (Or.inr ⟨y, hy, by rw [← ordr y hy]; exact ha⟩)))
  have S1 : cc_sp h' (fun a => cc_isl h ords a ∨ a = pl) := cc_sp.add E.1 ha La.2.2.2.1 (fun x hx hne => by
    obtain ⟨l', b'', cap', L⟩ := lst x hx
    exact (C.2.2 x (hbd _ _ L.2.1) (nA x hx hne)).2.2 0) hb1 hb2 (fun x c hx hc => by
    obtain ⟨l', b'', cap', L⟩ := lst x hx
    cases L.2.2.2.1.symm.trans hc
    exact hbd _ _ L.2.2.2.2.1) hn
  refine ⟨cc_sp.of S1 (fun x hx => ?_) (fun _ _ => rfl), fun z => E.2 (isl _ z)⟩
  rcases hx with hx | hx
  · exact Or.inl (isl x hx)
  · exact Or.inr hx
theorem cc_mk.ch {ox z pl pb pcap : Nat} {cells : List Nat} (M : cc_mk h now ox z pl pb pcap cells) (hbd : cd_bd h) (C : cd_ch A h h') (h1 : ¬ A ox) (h2 : ¬ A pl) (h3 : ¬ A pb) : cc_mk h' now ox z pl pb pcap cells := by
  obtain ⟨⟨m1, m2, m3, m4, m5, m6⟩, m7, m8⟩ := M
  obtain ⟨p1, p2, p3⟩ := C.2.2 ox (hbd _ _ m2) h1
  exact ⟨⟨m1, by rw [C.2.1 _ (hbd _ _ m2)]; exact m2, by rw [p3]; exact m3, by rw [p1]; exact m4, by rw [p3]; exact m5, by rw [p1]; exact m6⟩, m7, m8.ch C (hbd _ _ m8.2.1) (hbd _ _ m8.2.2.2.2.1) h2 h3⟩
theorem cc_mx.nw {pl : Nat} (R : cc_R h T n life now NW AC AU OR CE accs auts ords cers b1 c1 b2 c2 b3 c3 b4 c4) (hbd : cd_bd h) {pb pcap : Nat} {cells : List Nat} (Lp : cc_lst h pl cells pb pcap) (E : cc_mx h ords pl) (C : cd_ch (fun _ => False) h h') : cc_mx h' ords pl := by
  obtain ⟨B, Aa, U, O, Ce, Sp⟩ := R
  have ordr : ∀ x, x ∈ ords → cd_r h' x 2 = cd_r h x 2 := fun x hx => (C.2.2 x (hbd _ _ (O.mem hx).1.1) (fun z => z)).2.2 2
  have isl : ∀ x, cc_isl h' ords x → cc_isl h ords x := fun x hx => by
    rcases hx with ha | ha | ha | ha | ⟨y, hy, ha⟩
    · exact Or.inl ha
    · exact Or.inr (Or.inl ha)
    · exact Or.inr (Or.inr (Or.inl ha))
    · exact Or.inr (Or.inr (Or.inr (Or.inl ha)))
    · exact Or.inr (Or.inr (Or.inr (Or.inr ⟨y, hy, by rw [← ordr y hy]; exact ha⟩)))
  refine ⟨cc_sp.of E.1 (fun x hx => ?_) (fun x hx => ?_), fun z => E.2 (isl _ z)⟩
  · rcases hx with hx | hx
    · exact Or.inl (isl x hx)
    · exact Or.inr hx
  · rcases hx with hx | rfl
    · obtain ⟨l', b'', cap', L⟩ := cc_isl.lst Aa U O Ce (isl x hx)
      exact (C.2.2 x (hbd _ _ L.2.1) (fun z => z)).2.2 0
    · exact (C.2.2 x (hbd _ _ Lp.2.1) (fun z => z)).2.2 0
end VMK
