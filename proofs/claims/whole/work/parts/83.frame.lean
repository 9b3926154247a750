def cl_q (q : Nat ⊕ (Nat × Nat)) : Prop := match q with
  | .inl c => ¬ c = 1 ∧ ¬ c = 3 ∧ ¬ c = 7 ∧ ¬ c = 8 ∧ ¬ c = 12 ∧ ¬ c = 13
  | .inr r => ¬ r.1 = 3 ∧ ¬ r.1 = 5 ∧ ¬ (r.1 = 0 ∧ r.2 = 80)
theorem cl_q_low {q : Nat ⊕ (Nat × Nat)} (h : sg_lowq q) : cl_q q ∧ ¬ q = .inl 2 := by
  cases q with
  | inl c =>
    have h : c = 0 ∨ c = 4 ∨ c = 5 ∨ c = 6 ∨ c = 9 := h
    refine ⟨⟨by omega, by omega, by omega, by omega, by omega, by omega⟩, fun z => ?_⟩
    cases z
    omega
  | inr r =>
    have h : r.1 = 4 ∨ r.1 = 1 ∨ r.1 = 2 ∨ (r.1 = 0 ∧ r.2 < 80) := h
    exact ⟨⟨by omega, by omega, by omega⟩, fun z => by cases z⟩
theorem cl_q_mod {h : cd_H} (F : cm_ok h) {x : Nat} (h1 : 82 ≤ x) (h2 : x ≤ 113) : ∃ q, cd_k h x = some q ∧ cl_q q ∧ ¬ q = .inl 2 := by
  by_cases e : x = 82
  · exact ⟨.inl 11, by rw [e]; exact F.1, ⟨by decide, by decide, by decide, by decide, by decide, by decide⟩, fun z => by cases z⟩
  · have K : ∀ x, x < 114 → 83 ≤ x → cm_L.any (fun q => q.2.1 == x && (decide (q.2.2.1 < 3) && !(q.2.2.2 == 80))) = true := by decide
    have k := K x (by omega) (by omega)
    rw [List.any_eq_true] at k
    obtain ⟨q, hq, k⟩ := k
    rw [Bool.and_eq_true, Bool.and_eq_true] at k
    obtain ⟨k1, k2, k3⟩ := k
    have e1 : q.2.1 = x := of_decide_eq_true k1
    have e2 : q.2.2.1 < 3 := of_decide_eq_true k2
    have e3 : ¬ q.2.2.2 = 80 := fun z => by rw [z] at k3; cases k3
    have f := (F.2 q hq).2
    rw [e1] at f
    exact ⟨_, f, ⟨by show ¬ q.2.2.1 = 3; omega, by show ¬ q.2.2.1 = 5; omega, fun z => e3 z.2⟩, fun z => by cases z⟩
section WFR
variable {X : cd_E} {kc ks : Nat} {h h' : cd_H} {Q : Option Value → cd_H → Prop} {A : Nat → Prop} {T T' : Nat → Nat} {n n' life now cr gv us w : Nat} {sp : Nat → Bool} {ct : Option Nat} {NW NW' : Nat → Option Nat} {AC : List sg_A} {AU AU' : List sg_U} {OR OR' : List sg_O} {CE : List sg_C} {accs auts ords cers : List Nat} {b1 c1 b2 c2 b3 c3 b4 c4 : Nat}
theorem cc_R.gen (R : cc_R h T n life now NW AC AU OR CE accs auts ords cers b1 c1 b2 c2 b3 c3 b4 c4) (hbd : cd_bd h) (C : cd_ch A h h') (hA : ∀ x, A x → ∃ q, cd_k h x = some q ∧ cl_q q) : cc_acc h' AC accs b1 c1 ∧ ((∀ x, A x → ¬ cd_k h x = some (.inl 2)) → cc_aut h' now accs AU auts b2 c2) ∧ cc_ord h' now accs auts OR ords b3 c3 ∧ cc_cer h' now accs AU OR CE cers b4 c4 ∧ cc_sep h' ords := by
  obtain ⟨B, Aa, U, O, Ce, Sp⟩ := R
  have nk : ∀ x q, cd_k h x = some q → ¬ cl_q q → ¬ A x := fun x q hx hq z => by
    obtain ⟨p, hp, hl⟩ := hA x z
    rw [hx] at hp
    cases hp
    exact hq hl
  have ki : ∀ x c, cd_k h x = some (.inl c) → (c = 1 ∨ c = 3 ∨ c = 7 ∨ c = 8 ∨ c = 12 ∨ c = 13) → ¬ A x := fun x c hx hc => nk x _ hx (fun z => by
    obtain ⟨a, b, d, e, f, g⟩ := z
    omega)
  have k5 : ∀ x m, cd_k h x = some (.inr (5, m)) → ¬ A x := fun x m hx => nk x _ hx (fun z => z.2.1 rfl)
  have k3 : ∀ x m, cd_k h x = some (.inr (3, m)) → ¬ A x := fun x m hx => nk x _ hx (fun z => z.1 rfl)
  have ko : ∀ x, cd_k h x = some (.inr (0, 80)) → ¬ A x := fun x hx => nk x _ hx (fun z => z.2.2 ⟨rfl, rfl⟩)
  have lst : ∀ a l b cap, cc_lst h a l b cap → ¬ A a ∧ ¬ A b := fun a l b cap L => ⟨ki _ _ L.2.1 (by decide), k5 _ _ L.2.2.2.2.1⟩
  refine ⟨Aa.ch hbd C (lst _ _ _ _ Aa.2.1).1 (lst _ _ _ _ Aa.2.1).2 (fun x hx hk => ki x _ hk (by decide) hx), fun h2 => U.ch hbd C (lst _ _ _ _ U.2.1).1 (lst _ _ _ _ U.2.1).2 (fun x hx => ⟨h2 x hx, fun hk => ki x _ hk (by decide) hx, fun m hk => k3 x m hk hx⟩), ?_, cc_cer.ch Ce hbd C (lst _ _ _ _ Ce.2.1).1 (lst _ _ _ _ Ce.2.1).2 (fun x hx => ⟨fun hk => ki x _ hk (by decide) hx, fun hk => ki x _ hk (by decide) hx, fun hk => ko x hk hx⟩), Sp.of (fun x hx => ?_) (fun a ha => ?_)⟩
  · refine O.ch hbd C (lst _ _ _ _ O.2.1).1 (lst _ _ _ _ O.2.1).2 (fun x hx hk => ki x _ hk (by decide) hx) (fun y pl hy hpl => ?_)
    obtain ⟨-, pl', l, pb, pcap, d1, d2, d3⟩ := O.mem hy
    cases d1.symm.trans hpl
    exact ⟨(lst _ _ _ _ d3).1, fun pb' hpb => by cases d3.2.2.2.1.symm.trans hpb; exact (lst _ _ _ _ d3).2⟩
  · have k8 := (O.mem hx).1.1
    exact (C.2.2 x (hbd _ _ k8) (ki x _ k8 (by decide))).2.2 2
  · obtain ⟨l, b, cap, L⟩ := cc_isl.lst Aa U O Ce ha
    exact (C.2.2 a (hbd _ _ L.2.1) (lst _ _ _ _ L).1).2.2 0
theorem cc_P.mdl (P : cc_P h T n life now NW AC AU OR CE) (hbd : cd_bd h) (Fm : cm_ok h) (C : cd_ch (fun x => 82 ≤ x ∧ x ≤ 113) h h') : cc_P h' T n life now NW AC AU OR CE := by
  obtain ⟨accs, auts, ords, cers, b1, c1, b2, c2, b3, c3, b4, c4, R⟩ := P
  obtain ⟨r1, r2, r3, r4, r5⟩ := R.gen hbd C (fun x hx => by
    obtain ⟨q, k1, k2, k3⟩ := cl_q_mod Fm hx.1 hx.2
    exact ⟨q, k1, k2⟩)
  obtain ⟨F, hn, Ft, Cs, Ky, Kk, K, W, Z⟩ := R.1
  refine ⟨accs, auts, ords, cers, b1, c1, b2, c2, b3, c3, b4, c4, ⟨F.ch C (fun x hx z => by omega) (by omega), Nat.le_trans hn C.1, Ft.ch C (by omega) (fun x hx z => by omega), Cs.ch C (by omega) (fun x hx z => by omega), Ky.ch C (by omega) (fun x h1 h2 z => by omega), Kk.ch C (by omega) (fun x h1 h2 z => by omega), K.ch C (by omega) (by omega), W.ch C (by omega) (by omega), Z.ch2 C (by omega) (by omega) (by omega)⟩, r1, r2 (fun x hx hk => ?_), r3, r4, r5⟩
  obtain ⟨q, k1, k2, k3⟩ := cl_q_mod Fm hx.1 hx.2
  rw [k1] at hk
  cases hk
  exact k3 rfl
def cl_D (h : cd_H) (T : Nat → Nat) (n life now : Nat) (NW : Nat → Option Nat) (AC : List sg_A) (AU : List sg_U) (OR : List sg_O) (CE : List sg_C) (us : Nat) (ct : Option Nat) (cr gv : Nat) (sp : Nat → Bool) : Prop := cc_P h T n life now NW AC AU OR CE ∧ cc_sto h us ct ∧ cc_non h cr gv sp
def cl_M (h : cd_H) (T : Nat → Nat) (n life now : Nat) (NW : Nat → Option Nat) (AC : List sg_A) (AU : List sg_U) (OR : List sg_O) (CE : List sg_C) (us : Nat) (ct : Option Nat) (cr gv : Nat) (sp : Nat → Bool) : Prop := cm_R h T n life now NW AC AU OR CE ∧ cm_sto h us ct ∧ cm_non h cr gv sp
theorem cl_D.nk (D : cl_D h T n life now NW AC AU OR CE us ct cr gv sp) : 114 ≤ cd_n h ∧ cc_ok h := by
  obtain ⟨⟨accs, auts, ords, cers, b1, c1, b2, c2, b3, c3, b4, c4, R⟩, -, -⟩ := D
  exact ⟨R.1.2.1, R.1.1⟩
theorem cl_D.mdl (D : cl_D h T n life now NW AC AU OR CE us ct cr gv sp) (hbd : cd_bd h) (Fm : cm_ok h) {Am : Nat → Nat → Prop} (C : cm_ch Am h h') (hA : ∀ x j, Am x j → 82 ≤ x ∧ x ≤ 113) : cl_D h' T n life now NW AC AU OR CE us ct cr gv sp ∧ cd_i h' 64 13 = cd_i h 64 13 := by
  have hn := D.nk.1
  obtain ⟨P, S, N⟩ := D
  have e : ∀ x j, ¬ (82 ≤ x ∧ x ≤ 113) → cd_i h' x j = cd_i h x j := fun x j hx => C.2.2.2 x j (fun z => hx (hA x j z))
  obtain ⟨hN, hK, hI, hL, hR⟩ := h
  obtain ⟨hN', hK', hI', hL', hR'⟩ := h'
  obtain ⟨c1, c2, c3, -⟩ := C
  have c1 : hN' = hN := c1
  have c2 : hK' = hK := c2
  have c3 : hR' = hR := c3
  subst c1 c2 c3
  have C2 : cd_ch (fun x => 82 ≤ x ∧ x ≤ 113) (hN', hK', hI, hL, hR') (hN', hK', hI', hL, hR') := ⟨Nat.le_refl _, fun _ _ => rfl, fun x _ hx => ⟨fun j => e x j hx, fun _ => rfl, fun _ => rfl⟩⟩
  have P2 := P.mdl hbd Fm C2
  have S2 := S.ch C2 (by omega) (by omega)
  have N2 := N.ch C2 (by omega) (by omega) (by omega)
  exact ⟨⟨P2, S2, N2⟩, e 64 13 (by omega)⟩
theorem cl_M.dsk (M : cl_M h T n life now NW AC AU OR CE us ct cr gv sp) (hn : 114 ≤ cd_n h) (C : cd_ch A h h') (hA : ∀ x, A x → cc_Dq x) : cl_M h' T n life now NW AC AU OR CE us ct cr gv sp ∧ cd_i h' 82 13 = cd_i h 82 13 := by
  obtain ⟨⟨F, Z, K, Ky, W, Aa, U, O, Ce⟩, S, N⟩ := M
  have e : ∀ x j, 82 ≤ x ∧ x ≤ 113 → cd_i h' x j = cd_i h x j := fun x j hx => (C.2.2 x (by omega) (fun z => by
    have := hA x z
    unfold cc_Dq at this
    omega)).1 j
  have F' : cm_ok h' := ⟨by rw [C.2.1 82 (by omega)]; exact F.1, fun q hq => by
    have hb : q.2.1 < 114 := (by decide : ∀ q ∈ cm_L, q.2.1 < 114) q hq
    obtain ⟨f1, f2⟩ := F.2 q hq
    exact ⟨by rw [(C.2.2 82 (by omega) (fun z => by have := hA 82 z; unfold cc_Dq at this; omega)).2.2]; exact f1, by rw [C.2.1 _ (by omega)]; exact f2⟩⟩
  exact ⟨⟨⟨F', Z.of (fun x j hx => e x j (by omega)), K.of (fun j hj => e 82 j (by omega)), Ky.of (fun x j hx => e x j (by omega)), W.of (fun x j hx => e x j (by omega)), Aa.of (fun x j hx => e x j (by omega)), U.of (fun x j hx => e x j (by omega)), O.of (Nat.le_refl _) (Nat.le_refl _) (fun x j hx => e x j (by omega)), Ce.of (Nat.le_refl _) (fun x j hx => e x j (by omega))⟩, S.of (fun j hj => e 82 j (by omega)), N.of (fun x j hx => e x j (by omega))⟩, e 82 13 (by omega)⟩
theorem cc_ord.nx (O : cc_ord h now accs auts OR ords b3 c3) : cc_ord h (now + 1) accs auts OR ords b3 c3 := by
  obtain ⟨u1, u2, u3, u4, u5⟩ := O
  refine ⟨u1, u2, u3, u4, fun i x u hx hu => ?_⟩
  obtain ⟨d1, d2, d3, d4, d5⟩ := u5 i x u hx hu
  exact ⟨d1, d2, d3, by omega, d5⟩
theorem cc_cer.nx (O : cc_cer h now accs AU OR CE cers b4 c4) : cc_cer h (now + 1) accs AU OR CE cers b4 c4 := by
  obtain ⟨u1, u2, u3, u4, u5⟩ := O
  refine ⟨u1, u2, u3, u4, fun i x u hx hu => ?_⟩
  obtain ⟨d1, d2, d3, d4, d5⟩ := u5 i x u hx hu
  exact ⟨d1, d2, d3, by omega, d5⟩
theorem cm_ord.nx (O : cm_ord h now AC AU OR) : cm_ord h (now + 1) AC AU OR := by
  obtain ⟨u1, u2, u3⟩ := O
  refine ⟨u1, u2, fun i x hx => ?_⟩
  obtain ⟨d1, d2, d3, d4, d5⟩ := u3 i x hx
  exact ⟨d1, d2, d3, by omega, d5⟩
theorem cm_cer.nx (O : cm_cer h now OR CE) : cm_cer h (now + 1) OR CE := by
  obtain ⟨u1, u2, u3⟩ := O
  refine ⟨u1, u2, fun i x hx => ?_⟩
  obtain ⟨d1, d2, d3, d4, d5, d6, d7⟩ := u3 i x hx
  exact ⟨d1, d2, d3, d4, d5, by omega, d7⟩
end WFR
