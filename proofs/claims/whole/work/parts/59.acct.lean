def cc_B (h : cd_H) (T : Nat → Nat) (n life now : Nat) (NW : Nat → Option Nat) : Prop := cc_ok h ∧ 114 ≤ cd_n h ∧ cc_fat h ∧ cc_cs h ∧ cc_kys h ∧ cc_keys h ∧ cc_clk h life now ∧ cc_net h NW ∧ cc_txt h T n
section VAC
variable {X : cd_E} {kc ks : Nat} {h h' : cd_H} {Q : Option Value → cd_H → Prop} {A : Nat → Prop} {T : Nat → Nat} {n life now cr gv us w : Nat} {sp : Nat → Bool} {ct : Option Nat} {NW : Nat → Option Nat} {AC : List sg_A} {AU AU' : List sg_U} {OR : List sg_O} {CE : List sg_C} {accs auts ords cers : List Nat} {b1 c1 b2 c2 b3 c3 b4 c4 : Nat}
theorem cc_B.ch (B : cc_B h T n life now NW) (C : cd_ch A h h') (F' : cc_ok h') (hA : ∀ x, A x → (73 ≤ x ∧ x < 82 ∧ ¬ x = 77) ∨ 114 ≤ x) : cc_B h' T n life now NW := by
  obtain ⟨F, hn, Ft, Cs, Ky, Kk, K, W, Z⟩ := B
  have no : ∀ x, x < 73 ∨ x = 77 → ¬ A x := fun x hx z => by
    have := hA x z
    omega
  exact ⟨F', Nat.le_trans hn C.1, Ft.ch C (by omega) (fun x hx => no x (by omega)), Cs.ch C (by omega) (fun x hx => no x (by omega)), Ky.ch C (by omega) (fun x h1 h2 => no x (by omega)), Kk.ch C (by omega) (fun x h1 h2 => no x (by omega)), K.ch C (by omega) (no _ (by decide)), W.ch C (by omega) (no _ (by decide)), Z.ch2 C (by omega) (no _ (by decide)) (no _ (by decide))⟩
theorem cc_R.k (R : cc_R h T n life now NW AC AU OR CE accs auts ords cers b1 c1 b2 c2 b3 c3 b4 c4) (hbd : cd_bd h) {c : Nat} (C : cd_ci A h h') (hc : c = 1 ∨ c = 2 ∨ c = 3 ∨ c = 8) (hA : ∀ x, A x → 114 ≤ x ∧ cd_k h x = some (.inl c)) : cc_B h' T n life now NW ∧ (c ≠ 1 → cc_acc h' AC accs b1 c1) ∧ (c ≠ 2 → cc_aut h' now accs AU auts b2 c2) ∧ (c ≠ 8 → cc_ord h' now accs auts OR ords b3 c3) ∧ (c ≠ 3 → cc_cer h' now accs AU OR CE cers b4 c4) ∧ cc_sep h' ords := by
  obtain ⟨B, Aa, U, O, Ce, Sp⟩ := R
  have nk : ∀ x q, cd_k h x = some q → ¬ q = .inl c → ¬ A x := fun x q hx h1 z => by
    rw [(hA x z).2] at hx
    cases hx
    exact h1 rfl
  have hc' : ¬ c = 12 ∧ ¬ c = 13 ∧ ¬ c = 7 := by omega
  have n12 : ¬ (Sum.inl 12 : Nat ⊕ (Nat × Nat)) = .inl c := fun z => by cases z; omega
  have nr : ∀ q : Nat × Nat, ¬ (Sum.inr q : Nat ⊕ (Nat × Nat)) = .inl c := fun q z => by cases z
  have lst : ∀ a l b cap, cc_lst h a l b cap → ¬ A a ∧ ¬ A b := fun a l b cap L => ⟨nk _ _ L.2.1 n12, nk _ _ L.2.2.2.2.1 (nr _)⟩
  refine ⟨cc_B.ch B C.ch (C.ok B.1) (fun x hx => Or.inr (hA x hx).1), fun h1 => Aa.ch hbd C.ch (lst _ _ _ _ Aa.2.1).1 (lst _ _ _ _ Aa.2.1).2 (fun x hx hk => nk x _ hk (fun z => by cases z; exact h1 rfl) hx), fun h1 => U.ch hbd C.ch (lst _ _ _ _ U.2.1).1 (lst _ _ _ _ U.2.1).2 (fun x hx => ⟨fun hk => nk x _ hk (fun z => by cases z; exact h1 rfl) hx, fun hk => nk x _ hk (fun z => by cases z; omega) hx, fun m hk => nk x _ hk (nr _) hx⟩), fun h1 => ?_, fun h1 => cc_cer.ch Ce hbd C.ch (lst _ _ _ _ Ce.2.1).1 (lst _ _ _ _ Ce.2.1).2 (fun x hx => ⟨fun hk => nk x _ hk (fun z => by cases z; exact h1 rfl) hx, fun hk => nk x _ hk (fun z => by cases z; omega) hx, fun hk => nk x _ hk (nr _) hx⟩), Sp.of (fun x hx => by rw [C.2.2.1]) (fun a ha => by rw [C.2.2.1])⟩
  refine O.ch hbd C.ch (lst _ _ _ _ O.2.1).1 (lst _ _ _ _ O.2.1).2 (fun x hx hk => nk x _ hk (fun z => by cases z; exact h1 rfl) hx) (fun y pl hy hpl => ?_)
  obtain ⟨-, pl', l, pb, pcap, d1, d2, d3⟩ := O.mem hy
  cases d1.symm.trans hpl
  exact ⟨(lst _ _ _ _ d3).1, fun pb' hpb => by cases d3.2.2.2.1.symm.trans hpb; exact (lst _ _ _ _ d3).2⟩
theorem cc_R.ad (R : cc_R h T n life now NW AC AU OR CE accs auts ords cers b1 c1 b2 c2 b3 c3 b4 c4) (hbd : cd_bd h) {a b cap : Nat} {l : List Nat} (ha : a = 78 ∨ a = 79 ∨ a = 80 ∨ a = 81) (La : cc_lst h a l b cap) (C : cd_ch (fun x => x = a ∨ (x = b ∧ 64 ≤ b)) h h') (hb' : ∃ b', cd_r h' a 0 = some b' ∧ (b' = b ∨ cd_n h ≤ b')) : cc_B h' T n life now NW ∧ (a ≠ 78 → cc_acc h' AC accs b1 c1) ∧ (a ≠ 80 → cc_aut h' now accs AU auts b2 c2) ∧ (a ≠ 79 → cc_ord h' now accs auts OR ords b3 c3) ∧ (a ≠ 81 → cc_cer h' now accs AU OR CE cers b4 c4) ∧ cc_sep h' ords := by
  have R0 := R
  obtain ⟨B, Aa, U, O, Ce, Sp⟩ := R
  have hn : 114 ≤ cd_n h := B.2.1
  have La0 := La
  obtain ⟨l1, l2, l3, l4, l5, l6, l7, l8⟩ := La
  have nk : ∀ x q, cd_k h x = some q → ¬ q = .inl 12 → ¬ q = .inr (5, cap) → ¬ (x = a ∨ (x = b ∧ 64 ≤ b)) := fun x q hx h1 h2 z => by
    rcases z with z | z
    · rw [z, l2] at hx; cases hx; exact h1 rfl
    · rw [z.1, l5] at hx; cases hx; exact h2 rfl
  have isla : cc_isl h ords a := by
    rcases ha with e | e | e | e
    · exact Or.inl e
    · exact Or.inr (Or.inl e)
    · exact Or.inr (Or.inr (Or.inl e))
    · exact Or.inr (Or.inr (Or.inr (Or.inl e)))
  have lst : ∀ a' l' b' cap', cc_isl h ords a' → ¬ a' = a → cc_lst h a' l' b' cap' → ¬ (a' = a ∨ (a' = b ∧ 64 ≤ b)) ∧ ¬ (b' = a ∨ (b' = b ∧ 64 ≤ b)) := fun a' l' b' cap' hi hne L => by
    refine ⟨fun z => ?_, fun z => ?_⟩
    · rcases z with z | z
      · exact hne z
      · have := L.2.1
        rw [z.1, l5] at this
        cases this
    · rcases z with z | z
      · have := L.2.2.2.2.1
        rw [z, l2] at this
        cases this
      · exact hne (Sp.1 a' a b hi isla (by rw [← z.1]; exact L.2.2.2.1) l4 z.2)
  have kin : ∀ x q, cd_k h x = some (.inl q) → ¬ q = 12 → ¬ (x = a ∨ (x = b ∧ 64 ≤ b)) := fun x q hx h1 => nk x _ hx (fun z => by cases z; exact h1 rfl) (fun z => by cases z)
  have hA : ∀ x, (x = a ∨ (x = b ∧ 64 ≤ b)) → (73 ≤ x ∧ x < 82 ∧ ¬ x = 77) ∨ 114 ≤ x := fun x hx => by
    rcases hx with rfl | ⟨rfl, hx⟩
    · omega
    · exact Or.inr (Sp.2 a x isla l4 hx)
  have nA : ∀ x, x < 73 ∨ x = 74 → ¬ x = a → ¬ (x = a ∨ (x = b ∧ 64 ≤ b)) := fun x hx hne z => by
    rcases z with z | z
    · exact hne z
    · have := Sp.2 a b isla l4 z.2
      omega
  have F' : cc_ok h' := B.1.ch2 C (by omega) (nA 64 (by decide) (by omega)) (nA 65 (by decide) (by omega)) (nA 71 (by decide) (by omega)) (nA 74 (by decide) (by omega))
  have ordr : ∀ x, x ∈ ords → cd_r h' x 2 = cd_r h x 2 := fun x hx => by
    have k8 := (O.mem hx).1.1
    exact (C.2.2 x (hbd _ _ k8) (kin x 8 k8 (by decide))).2.2 2
  have isl : ∀ x, cc_isl h' ords x → cc_isl h ords x := fun x hx => by
    rcases hx with ha | ha | ha | ha | ⟨y, hy, ha⟩
    · exact Or.inl ha
    · exact Or.inr (Or.inl ha)
    · exact Or.inr (Or.inr (Or.inl ha))
    · exact Or.inr (Or.inr (Or.inr (Or.inl ha)))
    · exact Or.inr (Or.inr (Or.inr (Or.inr ⟨y, hy, by rw [← ordr y hy]; exact ha⟩)))
  refine ⟨cc_B.ch B C F' hA, fun h1 => ?_, fun h1 => ?_, fun h1 => ?_, fun h1 => ?_, ?_⟩
  · have L := lst _ _ _ _ (Or.inl rfl) (fun z => h1 z.symm) Aa.2.1
    exact Aa.ch hbd C L.1 L.2 (fun x hx hk => kin x _ hk (by decide) hx)
  · have L := lst _ _ _ _ (Or.inr (Or.inr (Or.inl rfl))) (fun z => h1 z.symm) U.2.1
    exact U.ch hbd C L.1 L.2 (fun x hx => ⟨fun hk => kin x _ hk (by decide) hx, fun hk => kin x _ hk (by decide) hx, fun m hk => nk x _ hk (fun z => by cases z) (fun z => by cases z) hx⟩)
  · have L := lst _ _ _ _ (Or.inr (Or.inl rfl)) (fun z => h1 z.symm) O.2.1
    refine O.ch hbd C L.1 L.2 (fun x hx hk => kin x _ hk (by decide) hx) (fun y pl hy hpl => ?_)
    obtain ⟨-, pl', l', pb, pcap, d1, d2, d3⟩ := O.mem hy
    cases d1.symm.trans hpl
    have L2 := lst pl _ _ _ (Or.inr (Or.inr (Or.inr (Or.inr ⟨y, hy, hpl⟩)))) (by omega) d3
    exact ⟨L2.1, fun pb' hpb => by cases d3.2.2.2.1.symm.trans hpb; exact L2.2⟩
  · have L := lst _ _ _ _ (Or.inr (Or.inr (Or.inr (Or.inl rfl)))) (fun z => h1 z.symm) Ce.2.1
    exact cc_cer.ch Ce hbd C L.1 L.2 (fun x hx => ⟨fun hk => kin x _ hk (by decide) hx, fun hk => kin x _ hk (by decide) hx, fun hk => nk x _ hk (fun z => by cases z) (fun z => by cases z) hx⟩)
  · obtain ⟨b', hb1, hb2⟩ := hb'
    have S1 : cc_sp h' (cc_isl h ords) := cc_sp.add Sp isla l4 (fun x hx hne => by
      obtain ⟨l', b'', cap', L⟩ := cc_isl.lst Aa U O Ce hx
      exact (C.2.2 x (hbd _ _ L.2.1) (lst _ _ _ _ hx hne L).1).2.2 0) hb1 hb2 (fun x c hx hc => by
      obtain ⟨l', b'', cap', L⟩ := cc_isl.lst Aa U O Ce hx
      cases L.2.2.2.1.symm.trans hc
      exact hbd _ _ L.2.2.2.2.1) hn
    exact cc_sp.of S1 isl (fun _ _ => rfl)
theorem cc_acc.cls (Aa : cc_acc h AC accs b1 c1) {i x : Nat} (hx : accs[i]? = some x) (C : cd_ci (fun y => y = x) h h') (e : cd_i h' x 1 = 1) : cc_acc h' (AC.set i (sg_ky AC i, true)) accs b1 c1 := by
  obtain ⟨u1, u2, u3, u4, u5⟩ := Aa
  have hil := (List.getElem?_eq_some_iff.mp hx).1
  have ea : AC[i]? = some (AC[i]'(by omega)) := List.getElem?_eq_getElem (by omega)
  obtain ⟨d1, d2, d3, d4, d5⟩ := u5 i x _ hx ea
  have ek : sg_ky AC i = (AC[i]'(by omega)).1 := by rw [sg_ky, ea]
  refine ⟨by rw [List.length_set]; exact u1, u2.ci C (fun z => by have := u2.2.1; rw [z, d2] at this; cases this), by rw [List.length_set]; exact u3, u4, fun j y a hy hav => ?_⟩
  rw [List.getElem?_set] at hav
  by_cases hij : i = j
  · subst hij
    rw [if_pos rfl, if_pos (by omega)] at hav
    cases hav
    cases hx.symm.trans hy
    exact ⟨d1, by rw [C.2.1]; exact d2, by rw [C.2.2.1, ek]; exact d3, by rw [ek]; exact d4, e⟩
  · rw [if_neg hij] at hav
    have hxy : ¬ y = x := fun z => hij (by subst z; exact sg_inj u4 hx hy)
    obtain ⟨e1, e2, e3, e4, e5⟩ := u5 j y a hy hav
    exact ⟨e1, by rw [C.2.1]; exact e2, by rw [C.2.2.1]; exact e3, e4, by rw [C.2.2.2.2 y 1 hxy]; exact e5⟩
def sg_close (AC : List sg_A) (AU : List sg_U) (OR : List sg_O) (CE : List sg_C) (us : Nat) (ct : Option Nat) (snd : Option Nat) : sg_Rs := match snd with
  | none => sg_same0 (-4) AC AU OR CE us ct
  | some i => (sg_fr (sg_fate us ct 3) 0, if sg_fc (sg_fate us ct 3) then AC.set i (sg_ky AC i, true) else AC, sg_fa (sg_fate us ct 3) AU, OR, CE, sg_fu (sg_fate us ct 3) us 3, sg_ft (sg_fate us ct 3) ct, sg_fx (sg_fate us ct 3))
theorem cc_TK.dk (U : cc_aut h now accs AU auts b2 c2) {x : Nat} (hx : cc_TK auts x) : cc_Dk x := by
  rcases hx with rfl | rfl | hx
  · exact Or.inl (by decide)
  · exact Or.inl (by decide)
  · exact Or.inr (U.mem hx).2
theorem sg_fate_lt (us : Nat) (ct : Option Nat) (w : Nat) : sg_fate us ct w < 64 := by
  unfold sg_fate
  split
  · decide
  · split
    · decide
    · split <;> decide
theorem sp_Desk_closeAccount (R : cc_R h T n life now NW AC AU OR CE accs auts ords cers b1 c1 b2 c2 b3 c3 b4 c4) (S : cc_sto h us ct) (N : cc_non h cr gv sp) (hcr : cr < 1000) {snd : Option Nat} (hs : ∀ i, snd = some i → i < AC.length) (hq : cc_Q Q h T n life now NW cr gv sp (sg_close AC AU OR CE us ct snd)) : cd_W X m_Desk_closeAccount kc ks 0 [some (.ref 64), some (va_rf (snd.bind (fun i => accs[i]?))), none] [] h Q := by
  have F := R.1.1
  have a3 := R.2.1.2.2.1
  cases hsn : snd with
  | none =>
    rw [hsn] at hq
    exact g_Desk_closeAccount F ⟨fun _ => hq h (cd_ch.rf _ _) ⟨_, _, _, _, _, _, _, _, _, _, _, _, R⟩ S N, fun b hb => by cases hb⟩
  | some i =>
    rw [hsn] at hq
    have hi := hs i hsn
    have ex : accs[i]? = some (accs[i]'(by omega)) := List.getElem?_eq_getElem (by omega)
    generalize hxx : accs[i]'(by omega) = x at ex
    have ea : AC[i]? = some AC[i] := List.getElem?_eq_getElem hi
    obtain ⟨d1, d2, d3, d4, d5⟩ := R.2.1.2.2.2.2 i x _ ex ea
    have hfl := sg_fate_lt us ct 3
    refine g_Desk_closeAccount F ⟨fun z => ?_, fun b hb => ?_⟩
    · rw [show (some i : Option Nat).bind (fun i => accs[i]?) = some x from ex] at z
      cases z
    · have : b = x := Option.some.inj (hb.symm.trans ex)
      subst this
      show cd_W X m_Desk_keep 0 0 0 [some (.ref 64), some (.int (nI 3)), none] [] h _
      refine sp_Desk_keepF R S N hcr (by decide) (fun h1 C1 en bd1 R1 S1 N1 k e0 e1 => ⟨_, rfl, R1.1.1, k, ?_⟩)
      have Cd : cd_ch cc_Dk h h1 := (cd_ch.rf cc_Dk h).old C1 (fun y _ hy => hy.dk R.2.2.1)
      generalize hf : sg_fate us ct 3 = f at *
      rw [e0]
      cases hc : sg_fc f with
      | false =>
        refine ⟨fun _ => sp_Fat_answer R1.1.1 k e0 e1 ⟨_, rfl, R1.1.1, ?_⟩, fun z => absurd rfl z⟩
        have K := hq h1 Cd
        simp only [sg_close, hf, hc] at K
        exact K ⟨_, _, _, _, _, _, _, _, _, _, _, _, R1⟩ S1 N1
      | true =>
        have d2' : cd_k h1 b = some (.inl 1) := (R1.2.1.2.2.2.2 i b _ ex ea).2.1
        refine ⟨fun z => absurd z (by decide), fun _ => ⟨d2', by omega, ?_⟩⟩
        have C2 : cd_ci (fun y => y = b) h1 (cd_si h1 b 1 1) := cd_ci.si rfl
        have i0 : ∀ j, cd_i (cd_si h1 b 1 1) f j = cd_i h1 f j := fun j => by rw [cd_i_si, if_neg (fun z => by omega)]
        refine sp_Fat_answer (C2.ok R1.1.1) k (by rw [i0]; exact e0) (by rw [i0]; exact e1) ⟨_, rfl, C2.ok R1.1.1, ?_⟩
        obtain ⟨B2, -, U2, O2, Ce2, Sp2⟩ := cc_R.k R1 bd1 (c := 1) C2 (Or.inl rfl) (fun y hy => by subst hy; exact ⟨d1, d2'⟩)
        have A2 := R1.2.1.cls ex C2 (by rw [cd_i_si, if_pos ⟨rfl, rfl⟩])
        have K := hq (cd_si h1 b 1 1) (Cd.tr (cd_ch.si (Or.inr d1)))
        simp only [sg_close, hf, hc] at K
        refine K ⟨_, _, _, _, _, _, _, _, _, _, _, _, B2, A2, U2 (by decide), O2 (by decide), Ce2 (by decide), Sp2⟩ (S1.ch C2.ch (by have := R1.1.2.1; omega) (by omega)) (N1.ch C2.ch (by have := R1.1.2.1; omega) (by omega) (by omega))
end VAC
