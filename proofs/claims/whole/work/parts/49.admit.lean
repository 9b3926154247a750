def cd_bd (h : cd_H) : Prop := ∀ x q, cd_k h x = some q → x < cd_n h
theorem cd_W.bd {X : cd_E} {kc ks : Nat} {h : cd_H} {Q : Option Value → cd_H → Prop} {M : cd_M} {pc : Nat} {L : List (Option Value)} {S : List Value} (k : cd_bd h → cd_W X M kc ks pc L S h Q) : cd_W X M kc ks pc L S h Q :=
  cd_W.k0 (fun _ hnone _ => k (fun x q hx => by
    by_cases z : cd_n h ≤ x
    · rw [hnone x z] at hx; cases hx
    · omega))
section VFR
variable {A : Nat → Prop} {h h' : cd_H} {now life : Nat} {AC : List sg_A} {AU : List sg_U} {OR : List sg_O} {accs auts ords : List Nat} {b cap : Nat} {NW : Nat → Option Nat}
theorem cc_acc.ch (U : cc_acc h AC accs b cap) (hn : cd_bd h) (C : cd_ch A h h') (h78 : ¬ A 78) (hb : ¬ A b) (hA : ∀ x, A x → ¬ cd_k h x = some (.inl 1)) : cc_acc h' AC accs b cap := by
  obtain ⟨u1, u2, u3, u4, u5⟩ := U
  refine ⟨u1, u2.ch C (hn _ _ u2.2.1) (hn _ _ u2.2.2.2.2.1) h78 hb, u3, u4, fun i x a hx ha => ?_⟩
  obtain ⟨c1, c2, c3, c4, c5⟩ := u5 i x a hx ha
  have hx2 := hn _ _ c2
  obtain ⟨p1, p2, p3⟩ := C.2.2 x hx2 (fun w => hA x w c2)
  exact ⟨c1, by rw [C.2.1 x hx2]; exact c2, by rw [p3]; exact c3, c4, by rw [p1]; exact c5⟩
theorem cc_ord.ch (O : cc_ord h now accs auts OR ords b cap) (hn : cd_bd h) (C : cd_ch A h h') (h79 : ¬ A 79) (hb : ¬ A b) (hA : ∀ x, A x → ¬ cd_k h x = some (.inl 8)) (hp : ∀ y pl, y ∈ ords → cd_r h y 2 = some pl → ¬ A pl ∧ ∀ pb, cd_r h pl 0 = some pb → ¬ A pb) : cc_ord h' now accs auts OR ords b cap := by
  obtain ⟨u1, u2, u3, u4, u5⟩ := O
  refine ⟨u1, u2.ch C (hn _ _ u2.2.1) (hn _ _ u2.2.2.2.2.1) h79 hb, u3, u4, fun i x a hx ha => ?_⟩
  obtain ⟨⟨c1, c2⟩, c3, c4, c5, c6, c7, ⟨pl, pb, pcap, c8, c8b, c8c⟩, c9⟩ := u5 i x a hx ha
  have hx2 := hn _ _ c2
  obtain ⟨p1, p2, p3⟩ := C.2.2 x hx2 (fun w => hA x w c2)
  obtain ⟨q1, q2⟩ := hp x pl (List.mem_of_getElem? hx) c8
  exact ⟨⟨c1, by rw [C.2.1 x hx2]; exact c2⟩, by rw [p3]; exact c3, by rw [p1]; exact c4, c5, c6, c7, ⟨pl, pb, pcap, by rw [p3]; exact c8, c8b, c8c.ch C (hn _ _ c8c.2.1) (hn _ _ c8c.2.2.2.2.1) q1 (q2 pb c8c.2.2.2.1)⟩, by rw [p1]; exact c9⟩
theorem cc_kys.ch (K : cc_kys h) (C : cd_ch A h h') (hn : 82 ≤ cd_n h) (hA : ∀ x, 66 ≤ x → x ≤ 70 → ¬ A x) : cc_kys h' := fun k hk => by
  obtain ⟨⟨k1, k2, k3, k4⟩, k5⟩ := K k hk
  obtain ⟨p1, -, -⟩ := C.2.2 (66 + k) (by omega) (hA _ (by omega) (by omega))
  exact ⟨⟨by rw [C.2.1 _ (by omega)]; exact k1, by rw [p1]; exact k2, by rw [p1]; exact k3, k4⟩, by rw [p1]; exact k5⟩
theorem cc_keys.ch (K : cc_keys h) (C : cd_ch A h h') (hn : 82 ≤ cd_n h) (hA : ∀ x, 66 ≤ x → x ≤ 70 → ¬ A x) : cc_keys h' := fun k hk => by
  rw [(C.2.2 (66 + k) (by omega) (hA _ (by omega) (by omega))).1]
  exact K k hk
theorem cc_net.ch (W : cc_net h NW) (C : cd_ch A h h') (hn : 82 ≤ cd_n h) (hA : ¬ A 77) : cc_net h' NW := fun j hj => by
  rw [(C.2.2 77 (by omega) hA).1]
  exact W j hj
theorem cc_sto.ch {us : Nat} {ct : Option Nat} (S : cc_sto h us ct) (C : cd_ch A h h') (hn : 82 ≤ cd_n h) (hA : ¬ A 76) : cc_sto h' us ct := by
  obtain ⟨s1, s2, s3, s4⟩ := S
  have p := (C.2.2 76 (by omega) hA).1
  exact ⟨s1, by rw [p]; exact s2, by rw [p]; exact s3, s4⟩
theorem cc_clk.ch (S : cc_clk h life now) (C : cd_ch A h h') (hn : 82 ≤ cd_n h) (hA : ¬ A 64) : cc_clk h' life now := by
  obtain ⟨s1, s2, s3, s4⟩ := S
  have p := (C.2.2 64 (by omega) hA).1
  exact ⟨s1, s2, by rw [p]; exact s3, by rw [p]; exact s4⟩
theorem cc_txt.ch2 {T : Nat → Nat} {n : Nat} (Z : cc_txt h T n) (C : cd_ch A h h') (hn : 82 ≤ cd_n h) (h1 : ¬ A 71) (h2 : ¬ A 72) : cc_txt h' T n := by
  obtain ⟨z1, z2, z3, z4⟩ := Z
  have p := (C.2.2 71 (by omega) h1).1
  have q := (C.2.2 72 (by omega) h2).1
  exact ⟨z1, by rw [p]; exact z2, fun j hj => by rw [q]; exact z3 j hj, z4⟩
end VFR
theorem sg_nd_lt (T : Nat → Nat) (n : Nat) : sg_nd T n < 2147483647 := by
  unfold sg_nd
  cases n with
  | zero => exact (by decide : (7 : Nat) < 2147483647)
  | succ L =>
    rw [List.range'_concat, List.foldl_append]
    exact cd_dg_lt _ _
theorem sg_rq_lt (T : Nat → Nat) (n : Nat) (x y : Int32) : sg_rq T n x y < 2147483647 := cd_numI_lt (cd_dg_lt _ _) _
def sg_who (AC : List sg_A) (k : Nat) (y : Int32) : Option Nat := if y = -1 then some k else match AC[sg_ix y]? with
  | none => none
  | some a => if a.2 then none else some a.1
def sg_adm (AC : List sg_A) (k : Nat) (y z : Int32) (d : Nat) : Prop := ∃ c, sg_who AC k y = some c ∧ sg_ver c (nI (sg_sig k d) ^^^ z) d
section VAD
variable {X : cd_E} {kc ks : Nat} {h : cd_H} {Q : Option Value → cd_H → Prop} {now : Nat} {AC : List sg_A} {accs : List Nat} {b cap : Nat} {T : Nat → Nat} {n : Nat}
theorem sp_Not_digest_5 (F : cc_ok h) (Z : cc_txt h T n) : ∀ i j d, i + j = n → d < 2147483647 → Q (some (.int (nI ((List.range' j i).foldl (fun x u => cd_dg x (T u)) d)))) h → cd_W X m_Not_digest kc ks 5 [some (.ref 71), some (.int (nI d)), some (.int (nI j))] [] h Q := by
  obtain ⟨z1, z2, z3, z4⟩ := Z
  intro i
  induction i with
  | zero =>
    intro j d hj hd hq
    refine g_Not_digest_5 F ?_
    rw [z2, nI_leI (by omega) (by omega)]
    exact ⟨fun _ => hq, fun t => by omega⟩
  | succ i ih =>
    intro j d hj hd hq
    refine g_Not_digest_5 F ?_
    rw [z2, nI_leI (by omega) (by omega)]
    refine ⟨fun t => by omega, fun _ => ⟨vp_in_nI (by omega) (by decide), ?_⟩⟩
    have := z4 j (by omega)
    rw [nI_clamp (by omega), z3 j (by omega)]
    refine sp_Dig_with F hd (by omega) ⟨_, rfl, F, ?_⟩
    rw [nI_1]
    exact ih (j + 1) _ (by omega) (cd_dg_lt _ _) hq
theorem sp_Desk_requestDigest (F : cc_ok h) (Z : cc_txt h T n) {x y : Int32} (hq : Q (some (.int (nI (sg_rq T n x y)))) h) : cd_W X m_Desk_requestDigest kc ks 0 [some (.ref 64), some (.int x), some (.int y), none] [] h Q := by
  refine g_Desk_requestDigest F (g_Not_digest F ?_)
  show cd_W X m_Not_digest 0 0 5 [some (.ref 71), some (.int (nI 7)), some (.int (nI 0))] [] h _
  refine sp_Not_digest_5 F Z n 0 7 (by omega) (by decide) ⟨_, rfl, F, ?_⟩
  show cd_W X m_Dig_with 0 0 0 [some (.int (nI (sg_nd T n))), some (.int (nI 124))] [] h _
  refine sp_Dig_with F (sg_nd_lt T n) (by decide) ⟨_, rfl, F, sp_Dig_withNumber F (cd_dg_lt _ _) ⟨_, rfl, F, ?_⟩⟩
  show cd_W X m_Dig_with 0 0 0 [some (.int (nI _)), some (.int (nI 124))] [] h _
  exact sp_Dig_with F (cd_numI_lt (cd_dg_lt _ _) _) (by decide) ⟨_, rfl, F, sp_Dig_withNumber F (cd_dg_lt _ _) ⟨_, rfl, F, hq⟩⟩
theorem sp_Desk_openKey (F : cc_ok h) (A : cc_acc h AC accs b cap) {y : Int32} (hy : ¬ y = -1) {k : Nat} (hq : Q (some (va_rf ((sg_who AC k y).map (fun c => 66 + c)))) h) : cd_W X m_Desk_openKey kc ks 0 [some (va_rf accs[sg_ix y]?)] [] h Q := by
  obtain ⟨a1, a2, a3, a4, a5⟩ := A
  rw [sg_who, if_neg hy] at hq
  refine g_Desk_openKey F ⟨fun hn => ?_, fun q hq2 => ?_⟩
  · have : AC[sg_ix y]? = none := by
      rw [List.getElem?_eq_none_iff] at hn ⊢
      omega
    rw [this] at hq
    exact hq
  · have hlt : sg_ix y < accs.length := (List.getElem?_eq_some_iff.mp hq2).1
    have e2 : AC[sg_ix y]? = some AC[sg_ix y] := List.getElem?_eq_getElem (by omega)
    obtain ⟨c1, c2, c3, c4, c5⟩ := a5 _ _ _ hq2 e2
    rw [e2] at hq
    simp only at hq
    rw [c5, c3]
    refine ⟨c2, fun t => ?_, fun t => ?_⟩
    · cases hc : (AC[sg_ix y]).2 with
      | false => rw [hc] at hq; exact hq
      | true => rw [hc] at t; exact absurd t (by decide)
    · cases hc : (AC[sg_ix y]).2 with
      | true => rw [hc] at hq; exact hq
      | false => rw [hc] at t; exact absurd rfl t
theorem sg_who_lt (A : cc_acc h AC accs b cap) {k c : Nat} {y : Int32} (hk : k < 4) (e : sg_who AC k y = some c) : c < 4 := by
  unfold sg_who at e
  by_cases hy : y = -1
  · rw [if_pos hy] at e
    cases e
    exact hk
  · rw [if_neg hy] at e
    cases hc : AC[sg_ix y]? with
    | none => rw [hc] at e; cases e
    | some a =>
      rw [hc] at e
      simp only at e
      have a3 := A.2.2.1
      have hl := (List.getElem?_eq_some_iff.mp hc).1
      have := (A.2.2.2.2 _ _ _ (List.getElem?_eq_getElem (by omega : sg_ix y < accs.length)) hc).2.2.2.1
      cases ha : a.2 with
      | true => rw [ha] at e; cases e
      | false =>
        rw [ha] at e
        cases e
        exact this
theorem sp_Desk_admit (F : cc_ok h) (hn82 : 82 ≤ cd_n h) (Z : cc_txt h T n) (Ky : cc_kys h) {cr gv : Nat} {sp : Nat → Bool} (N : cc_non h cr gv sp) (A : cc_acc h AC accs b cap) {k : Nat} (hk : k < 4) {x y z : Int32}
    (h2 : ¬ tx_good cr gv sp x → ∀ h', cd_ch (fun q => q = 64) h h' → cd_n h' = cd_n h → cc_ok h' → cd_i h' 64 13 = nI (sg_sig k (sg_rq T n x y)) → (∀ j, ¬ j = 13 → cd_i h' 64 j = cd_i h 64 j) → Q (some (.int (-2))) h')
    (h3 : ∀ p, p < gv → x = nI (1000 * cr + p) → sp p = false → ∀ h', cd_ch (fun q => q = 64 ∨ q = 75) h h' → cd_n h' = cd_n h → cc_ok h' → cd_i h' 64 13 = nI (sg_sig k (sg_rq T n x y)) → (∀ j, ¬ j = 13 → cd_i h' 64 j = cd_i h 64 j) → cc_non h' cr gv (fun j => if j = p then true else sp j) → ∀ r : Int32, (sg_adm AC k y z (sg_rq T n x y) → r = 0) → (¬ sg_adm AC k y z (sg_rq T n x y) → r = -3) → Q (some (.int r)) h') :
    cd_W X m_Desk_admit kc ks 0 [some (.ref 64), some (.ref (66 + k)), some (.int x), some (.int y), some (.int z), none, none] [] h Q := by
  refine cd_W.bd (fun hbd => ?_)
  have hd := sg_rq_lt T n x y
  have k1 := (Ky.kok (by omega : k < 5)).1
  refine g_Desk_admit F (sp_Desk_requestDigest F Z ⟨_, rfl, F, k1, sp_Key_sign F Ky (by omega) (by omega) ⟨_, rfl, F, ?_⟩⟩)
  have C1 : cd_ch (fun q => q = 64) h (cd_si h 64 13 (nI (sg_sig k (sg_rq T n x y)))) := cd_ch.si rfl
  have C1' : cd_ch (fun q => q = 64 ∨ q = 75) h (cd_si h 64 13 (nI (sg_sig k (sg_rq T n x y)))) := cd_ch.si (Or.inl rfl)
  have F1 : cc_ok (cd_si h 64 13 (nI (sg_sig k (sg_rq T n x y)))) := F.of rfl rfl
  have e1 : cd_i (cd_si h 64 13 (nI (sg_sig k (sg_rq T n x y)))) 64 13 = nI (sg_sig k (sg_rq T n x y)) := by rw [cd_i_si, if_pos ⟨rfl, rfl⟩]
  have e2 : ∀ j, ¬ j = 13 → cd_i (cd_si h 64 13 (nI (sg_sig k (sg_rq T n x y)))) 64 j = cd_i h 64 j := fun j hj => by rw [cd_i_si, if_neg (fun z => hj z.2)]
  refine sp_Non_spend F1 (N.ch C1 hn82 (by decide) (by decide)) (fun p hp e s h' C' F' n' N' => ⟨_, rfl, F', fun _ => ?_, fun t => absurd t (by decide)⟩) (fun hng => ⟨_, rfl, F1, fun t => absurd rfl t, fun _ => h2 hng _ C1 rfl F1 e1 e2⟩)
  have CC : cd_ch (fun q => q = 64 ∨ q = 75) h h' := C1'.old C' (fun q _ hq => Or.inr hq)
  have f1 : cd_i h' 64 13 = nI (sg_sig k (sg_rq T n x y)) := by rw [(C'.2.2 64 (by show 64 < cd_n h; omega) (by decide)).1]; exact e1
  have f2 : ∀ j, ¬ j = 13 → cd_i h' 64 j = cd_i h 64 j := fun j hj => by rw [(C'.2.2 64 (by show 64 < cd_n h; omega) (by decide)).1]; exact e2 j hj
  have K' : cc_kys h' := Ky.ch CC hn82 (fun x hx hx2 z => by omega)
  have hb : ¬ (b = 64 ∨ b = 75) := fun z => by
    have := A.2.1.2.2.2.2.1
    rcases z with z | z
    · rw [z, cc_k64 F] at this; cases this
    · rw [z, cc_k75 F] at this; cases this
  have A' : cc_acc h' AC accs b cap := A.ch hbd CC (by decide) hb (fun x hx hk => by
    rcases hx with hx | hx
    · rw [hx, cc_k64 F] at hk; cases hk
    · rw [hx, cc_k75 F] at hk; cases hk)
  have done := h3 p hp e s h' CC n' F' f1 f2 N'
  refine ⟨fun hy => sp_Desk_accountAt F' A' ⟨_, rfl, F', sp_Desk_openKey F' A' hy (k := k) ⟨_, rfl, F', fun hw => done _ (fun ⟨c, hc, _⟩ => ?_) (fun _ => rfl), fun q hq => ?_⟩⟩, fun hy => ⟨(K'.kok (by omega : k < 5)).1, ?_⟩⟩
  · rw [hc] at hw
    cases hw
  · cases hc : sg_who AC k y with
    | none => rw [hc] at hq; cases hq
    | some c =>
      rw [hc] at hq
      cases hq
      have hc4 := sg_who_lt A hk hc
      rw [f1]
      refine ⟨(K'.kok (by omega : c < 5)).1, sp_Key_verifies F' K' (by omega) (by omega) (fun v => ⟨_, rfl, F', fun _ => done _ (fun _ => rfl) (fun z => absurd ⟨c, hc, v⟩ z), fun t => absurd t (by decide)⟩) (fun v => ⟨_, rfl, F', fun t => absurd rfl t, fun _ => done _ (fun ⟨c', hc', v'⟩ => ?_) (fun _ => rfl)⟩)⟩
      rw [hc] at hc'
      cases hc'
      exact absurd v' v
  · have hc : sg_who AC k y = some k := by rw [sg_who, if_pos hy]
    rw [f1]
    refine sp_Key_verifies F' K' (by omega) (by omega) (fun v => ⟨_, rfl, F', fun _ => done _ (fun _ => rfl) (fun z => absurd ⟨k, hc, v⟩ z), fun t => absurd t (by decide)⟩) (fun v => ⟨_, rfl, F', fun t => absurd rfl t, fun _ => done _ (fun ⟨c', hc', v'⟩ => ?_) (fun _ => rfl)⟩)
    rw [hc] at hc'
    cases hc'
    exact absurd v' v
end VAD
