section VMN
variable {X : cd_E} {kc ks : Nat} {h h' : cd_H} {Q : Option Value → cd_H → Prop} {A : Nat → Prop} {T : Nat → Nat} {n life now cr gv us w : Nat} {sp : Nat → Bool} {ct : Option Nat} {NW : Nat → Option Nat} {AC : List sg_A} {OR : List sg_O} {CE : List sg_C} {accs ords cers : List Nat} {b1 c1 b3 c3 b4 c4 : Nat}
theorem sp_mk_old {AU : List sg_U} {auts ps : List Nat} {b2 c2 pb pcap z ox pl a y : Nat} {G : cd_H → Prop} (R : cc_R h T n life now NW AC AU OR CE accs auts ords cers b1 c1 b2 c2 b3 c3 b4 c4) (hbd : cd_bd h) (hps : ps.length ≤ 3) (hpl : ∀ p, p ∈ ps → p < auts.length) (hy : auts[a]? = some y) (M : cc_mk h now ox z pl pb pcap (sg_pc auts ps)) (E : cc_mx h ords pl)
    (hG : ∀ h5 pb' pcap', cd_ch cc_MK h h5 → cc_R h5 T n life now NW AC AU OR CE accs auts ords cers b1 c1 b2 c2 b3 c3 b4 c4 → cc_mk h5 now ox z pl pb' pcap' (sg_pc auts (ps ++ [a])) → cc_mx h5 ords pl → G h5) :
    cd_W X m_AL_add_LObjectZ 1 40 0 [some (.ref pl), some (.ref y)] [] h (fun r14 h15 => ∃ x16 : Int32, r14 = some (.int x16) ∧ ((cc_ok h15) ∧ (G h15))) := by
  have U := R.2.2.1
  have hL : cc_lst h pl (sg_pc auts ps) pb pcap := M.2.2
  have ymem := List.mem_of_getElem? hy
  have hcells : ∀ x, x ∈ sg_pc auts ps → x ∈ auts := fun x hx => by
    unfold sg_pc at hx
    rw [List.mem_map] at hx
    obtain ⟨p, hp1, rfl⟩ := hx
    have := hpl p hp1
    rw [List.getD_eq_getElem?_getD, List.getElem?_eq_getElem this]
    exact List.getElem_mem this
  have hcl : (sg_pc auts ps).length = ps.length := by unfold sg_pc; rw [List.length_map]
  have nxt : (sg_pc auts ps) ++ [y] = sg_pc auts (ps ++ [a]) := by
    have ey : auts.getD a 0 = y := by
      rw [List.getD_eq_getElem?_getD, hy]
      rfl
    unfold sg_pc
    rw [List.map_append, List.map_cons, List.map_nil, ey]
  refine sp_AL_add (kc := 0) (ks := 0) (v := y) (c := 2) M.2.2 (U.mem ymem).1 cs_2 (by omega) (fun x hx => ⟨2, (U.mem (hcells x hx)).1, cs_2⟩) (fun h5 pb' pcap' C5 L5 hb5 hn5 => ⟨_, rfl, ?_⟩)
  have R5 := R.ex hbd M.2.2 M.2.1 E C5
  have E5 : cc_mx h5 ords pl := cc_mx.add R hbd M.2.2 E (Or.inr rfl) M.2.2 C5 L5.2.2.2.1 (by rcases hb5 with z | z; exact Or.inl z; exact Or.inr (by omega))
  have M5 : cc_mk h5 now ox z pl pb' pcap' (sg_pc auts (ps ++ [a])) := by
    obtain ⟨⟨m1, m2, m3, m4, m5, m6⟩, m7, m8⟩ := M
    have nox : ¬ (ox = pl ∨ (ox = pb ∧ 64 ≤ pb)) := fun zz => by
      rcases zz with zz | zz
      · rw [zz, m8.2.1] at m2; cases m2
      · rw [zz.1, m8.2.2.2.2.1] at m2; cases m2
    obtain ⟨w1, w2, w3⟩ := C5.2.2 ox (hbd _ _ m2) nox
    exact ⟨⟨m1, by rw [C5.2.1 _ (hbd _ _ m2)]; exact m2, by rw [w3]; exact m3, by rw [w1]; exact m4, by rw [w3]; exact m5, by rw [w1]; exact m6⟩, m7, by rw [← nxt]; exact L5⟩
  refine ⟨R5.1.1, hG h5 pb' pcap' ((cd_ch.rf cc_MK h).old C5 (fun x _ hx => ?_)) R5 M5 E5⟩
  rcases hx with rfl | ⟨rfl, hx⟩
  · exact Or.inr M.2.1
  · exact Or.inr (E.1.2 pl x (Or.inr rfl) hL.2.2.2.1 hx)
theorem sp_Desk_makeOrder_16 {P : Nat → Option Nat} {l : List Nat} {i z ox pl : Nat} (hl : l.length ≤ 3) (hz : accs[i]? = some z) (hls : ∀ q, q ∈ l → ∃ c, tx_s T n q = some c) (hnm : ∀ q, q ∈ l → tx_nm T q (sg_sl T n q)) : ∀ (r k : Nat) (h : cd_H) (AU : List sg_U) (auts ps : List Nat) (b2 c2 pb pcap : Nat), r + k = l.length → cc_R h T n life now NW AC AU OR CE accs auts ords cers b1 c1 b2 c2 b3 c3 b4 c4 → (∀ i q, l[i]? = some q → cd_i h 73 i = nI q) → (∀ u, u ∈ AU → ∀ j, j < sgu_len u → sgu_N u j ≠ 34 ∧ sgu_N u j ≠ 92) → (∀ q, sg_pp T n life now AC AU i q = P q) → AU.length + sg_frs P (l.drop k) ≤ 24 → ps.length ≤ k → (∀ p, p ∈ ps → p < auts.length) → cc_mk h now ox z pl pb pcap (sg_pc auts ps) → cc_mx h ords pl → (∀ h' auts' b2' c2' pb' pcap', cd_ch cc_MK h h' → cc_R h' T n life now NW AC (sg_mk P T n i now (l.drop k) AU).1 OR CE accs auts' ords cers b1 c1 b2' c2' b3 c3 b4 c4 → cc_mk h' now ox z pl pb' pcap' (sg_pc auts' (ps ++ (sg_mk P T n i now (l.drop k) AU).2)) → (∀ p, p ∈ ps ++ (sg_mk P T n i now (l.drop k) AU).2 → p < auts'.length) → cc_mx h' ords pl → Q (some (.ref ox)) h') → cd_W X m_Desk_makeOrder (kc + 23 * r) (ks + 688 * r) 16 [some (.ref 64), some (.ref z), some (.int (nI l.length)), some (.ref ox), some (.int (nI k)), none, none] [] h Q := by
  intro r
  induction r with
  | zero =>
    intro k h AU auts ps b2 c2 pb pcap hk R st hN hP hfr hps hpl M E hq
    rw [List.drop_of_length_le (by omega), sg_mk] at hq
    refine g_Desk_makeOrder_16x (nI_le (by omega) (by omega)) (hq h auts b2 c2 pb pcap (cd_ch.rf _ _) R ?_ ?_ E)
    · rw [List.append_nil]
      exact M
    · rw [List.append_nil]
      exact hpl
  | succ r ih =>
    intro k h AU auts ps b2 c2 pb pcap hk R st hN hP hfr hps hpl M E hq
    refine cd_W.bd (fun hbd => ?_)
    have F := R.1.1
    have hn := R.1.2.1
    have Z := R.1.2.2.2.2.2.2.2.2
    have U := R.2.2.1
    have u1 := U.1
    have u3 := U.2.2.1
    have hlt : k < l.length := by omega
    have el : l[k]? = some l[k] := List.getElem?_eq_getElem hlt
    have hmem := List.getElem_mem hlt
    obtain ⟨c, hs⟩ := hls _ hmem
    have hname := hnm _ hmem
    rw [List.drop_eq_getElem_cons hlt] at hq hfr
    generalize hqq : l[k] = q at *
    rw [show kc + 23 * (r + 1) = (kc + 23 * r) + 23 by omega, show ks + 688 * (r + 1) = (ks + 688 * r) + 688 by omega]
    refine g_Desk_makeOrder_16 F ?_
    rw [nI_leI (by omega) (by omega), nI_leI (by decide) (by omega), nI_clamp (by omega), st k q el, nI_1]
    refine ⟨fun t => by omega, fun _ => ⟨fun t => by omega, fun _ => ⟨vp_in_nI (by omega) (by decide), sp_Desk_provedPart F Z R.1.2.2.2.2.2.2.1 R.2.1 U hN hz hs ⟨_, rfl, F, fun hnone => ?_, fun y hy => ?_⟩⟩⟩⟩
    · have hPq : P q = none := by
        rw [← hP q]
        cases hpp : sg_pp T n life now AC AU i q with
        | none => rfl
        | some a =>
          rw [hpp] at hnone
          have hnone : auts[a]? = none := hnone
          have := sg_fp_lt AU 0 a hpp
          rw [List.getElem?_eq_getElem (by omega)] at hnone
          cases hnone
      rw [sg_frs, hPq] at hfr
      simp only at hfr
      rw [sg_mk, hPq] at hq
      simp only at hq
      rw [st k q el]
      refine sp_mk_new R hbd (by omega) hz hs hname.1 (by omega) hpl M E (fun h5 nn b' cap' pb' pcap' C5 R5 M5 E5 => ?_)
      refine ih (k + 1) h5 (AU ++ [sg_new T n i now q]) (auts ++ [nn]) (ps ++ [AU.length]) b' cap' pb' pcap' (by omega) R5 (fun j qq hj => ?_) (fun u hu => ?_) (fun qq => ?_) (by rw [List.length_append, List.length_singleton]; omega) (by rw [List.length_append, List.length_singleton]; omega) (fun p hp => ?_) M5 E5 (fun h' auts' b2' c2' pb'' pcap'' C' R' M' hp' E' => ?_)
      · rw [(C5.2.2 73 (by omega) (fun zz => by rcases zz with zz | zz <;> omega)).1]
        exact st j qq hj
      · rw [List.mem_append, List.mem_singleton] at hu
        rcases hu with hu | rfl
        · exact hN u hu
        · exact sg_new_b hs hname
      · unfold sg_pp
        rw [sg_fp_app (fun u hu => by rw [List.mem_singleton] at hu; rw [hu]; exact sg_pq_new T n life now AC i qq i q)]
        exact hP qq
      · rw [List.mem_append, List.mem_singleton] at hp
        rw [List.length_append, List.length_singleton]
        rcases hp with hp | rfl
        · have := hpl p hp
          omega
        · omega
      · rw [List.append_assoc] at M' hp'
        exact hq h' auts' b2' c2' pb'' pcap'' (C5.tr C') R' M' hp' E'
    · cases hpp : sg_pp T n life now AC AU i q with
      | none => rw [hpp] at hy; cases hy
      | some a =>
        rw [hpp] at hy
        have hy : auts[a]? = some y := hy
        have hPq : P q = some a := by rw [← hP q]; exact hpp
        rw [sg_frs, hPq] at hfr
        simp only at hfr
        rw [sg_mk, hPq] at hq
        simp only at hq
        have hal := (List.getElem?_eq_some_iff.mp hy).1
        refine ⟨M.1.2.1, pl, M.1.2.2.2.2.1, M.2.2.2.1, sp_mk_old R hbd (by omega) hpl hy M E (fun h5 pb' pcap' C5 R5 M5 E5 => ?_)⟩
        refine ih (k + 1) h5 AU auts (ps ++ [a]) b2 c2 pb' pcap' (by omega) R5 (fun j qq hj => ?_) hN hP (by omega) (by rw [List.length_append, List.length_singleton]; omega) (fun p hp => ?_) M5 E5 (fun h' auts' b2' c2' pb'' pcap'' C' R' M' hp' E' => ?_)
        · rw [(C5.2.2 73 (by omega) (fun zz => by rcases zz with zz | zz <;> omega)).1]
          exact st j qq hj
        · rw [List.mem_append, List.mem_singleton] at hp
          rcases hp with hp | rfl
          · exact hpl p hp
          · exact hal
        · rw [List.append_assoc] at M' hp'
          exact hq h' auts' b2' c2' pb'' pcap'' (C5.tr C') R' M' hp' E'
theorem sp_Ord_init {a z : Nat} {p2 : Int32} (hk : cd_k h a = some (.inl 8)) (h64 : 64 ≤ a) (han : a < cd_n h) (hn : 64 ≤ cd_n h) (hq : ∀ h', cd_ch (fun x => x = a) h h' → cd_n h' = cd_n h + 1 → cd_k h' a = some (.inl 8) → cd_r h' a 0 = some z → cd_i h' a 1 = p2 → cd_r h' a 2 = some (cd_n h) → cd_i h' a 3 = -1 → cc_lst h' (cd_n h) [] 0 0 → Q none h') : cd_W X m_Ord_init (kc + 1) (ks + 3) 0 [some (.ref a), some (.ref z), some (.int p2)] [] h Q := by
  refine g_Ord_init ⟨hk, h64, ?_⟩
  have C0 : cd_ch (fun x => x = a) h (cd_si (cd_sr (cd_si h a 3 (-1)) a 0 (some z)) a 1 p2) := ((cd_ch.si (A := fun x => x = a) rfl).tr (cd_ch.sr rfl)).tr (cd_ch.si rfl)
  have k0 : cd_k (cd_si (cd_sr (cd_si h a 3 (-1)) a 0 (some z)) a 1 p2) = cd_k h := rfl
  have n0 : cd_n (cd_si (cd_sr (cd_si h a 3 (-1)) a 0 (some z)) a 1 p2) = cd_n h := rfl
  have r0 : cd_r (cd_si (cd_sr (cd_si h a 3 (-1)) a 0 (some z)) a 1 p2) a 0 = some z := by rw [cd_r_si, cd_r_sr, if_pos ⟨rfl, rfl⟩]
  have i1 : cd_i (cd_si (cd_sr (cd_si h a 3 (-1)) a 0 (some z)) a 1 p2) a 1 = p2 := by rw [cd_i_si, if_pos ⟨rfl, rfl⟩]
  have i3 : cd_i (cd_si (cd_sr (cd_si h a 3 (-1)) a 0 (some z)) a 1 p2) a 3 = -1 := by rw [cd_i_si, if_neg (fun z => by cases z.2), cd_i_sr, cd_i_si, if_pos ⟨rfl, rfl⟩]
  generalize cd_si (cd_sr (cd_si h a 3 (-1)) a 0 (some z)) a 1 p2 = h0 at *
  rw [n0]
  have kn : cd_k (cd_new h0 (.inl 12)) (cd_n h) = some (.inl 12) := by rw [cd_k_new, n0, if_pos rfl]
  refine sp_AL_init hn kn (by rw [cd_i_new, n0, if_pos rfl]) (fun h2 C2 n2 L2 => ?_)
  have hne : ¬ a = cd_n h := by omega
  obtain ⟨p1, p2', p3⟩ := C2.2.2 a (by rw [cd_n_new, n0]; omega) hne
  have ka : cd_k h2 a = some (.inl 8) := by rw [C2.2.1 a (by rw [cd_n_new, n0]; omega), cd_k_new, n0, if_neg hne, k0]; exact hk
  refine ⟨rfl, ka, hq _ ?_ ?_ ka ?_ ?_ ?_ ?_ ?_⟩
  · have Cn : cd_ch (fun _ => False) h0 h2 := (cd_ch.new (A := fun _ => False)).old C2 (fun x hx zz => by rw [n0] at hx; omega)
    exact (C0.old Cn (fun x _ zz => zz.elim)).tr (cd_ch.sr rfl)
  · show cd_n h2 = _
    rw [n2, cd_n_new, n0]
  · rw [cd_r_sr, if_neg (fun z => by cases z.2), p3, cd_r_new, n0, if_neg hne]
    exact r0
  · rw [cd_i_sr, p1, cd_i_new, n0, if_neg hne]
    exact i1
  · rw [cd_r_sr, if_pos ⟨rfl, rfl⟩]
  · rw [cd_i_sr, p1, cd_i_new, n0, if_neg hne]
    exact i3
  · obtain ⟨l1, l2, l3, l4, l5, l6, l7, l8⟩ := L2
    exact ⟨l1, l2, by rw [cd_i_sr]; exact l3, by rw [cd_r_sr, if_neg (fun z => by omega)]; exact l4, l5, l6, l7, fun j hj => by cases hj⟩
theorem sp_Desk_makeOrder {AU : List sg_U} {auts : List Nat} {b2 c2 : Nat} {P : Nat → Option Nat} {l : List Nat} {i z : Nat} (hl : l.length ≤ 3) (hz : accs[i]? = some z) (hls : ∀ q, q ∈ l → ∃ c, tx_s T n q = some c) (hnm : ∀ q, q ∈ l → tx_nm T q (sg_sl T n q)) (R : cc_R h T n life now NW AC AU OR CE accs auts ords cers b1 c1 b2 c2 b3 c3 b4 c4) (st : ∀ i q, l[i]? = some q → cd_i h 73 i = nI q) (hN : ∀ u, u ∈ AU → ∀ j, j < sgu_len u → sgu_N u j ≠ 34 ∧ sgu_N u j ≠ 92) (hP : ∀ q, sg_pp T n life now AC AU i q = P q) (hfr : AU.length + sg_frs P l ≤ 24)
    (hq : ∀ h' auts' b2' c2' pl pb' pcap', cd_ch cc_MK h h' → cc_R h' T n life now NW AC (sg_mk P T n i now l AU).1 OR CE accs auts' ords cers b1 c1 b2' c2' b3 c3 b4 c4 → cc_mk h' now (cd_n h) z pl pb' pcap' (sg_pc auts' (sg_mk P T n i now l AU).2) → (∀ p, p ∈ (sg_mk P T n i now l AU).2 → p < auts'.length) → cc_mx h' ords pl → Q (some (.ref (cd_n h))) h') : cd_W X m_Desk_makeOrder 80 2200 0 [some (.ref 64), some (.ref z), some (.int (nI l.length)), none, none, none, none] [] h Q := by
  refine cd_W.bd (fun hbd => ?_)
  have F := R.1.1
  have hn := R.1.2.1
  have C1 : cd_ch (fun _ => False) h (cd_new h (.inl 8)) := cd_ch.new
  refine g_Desk_makeOrder (kc := 78) (ks := 2193) F ⟨by omega, ?_⟩
  have nw : cd_i (cd_new h (.inl 8)) 64 12 = nI now := by rw [(C1.2.2 64 (by omega) (fun z => z)).1]; exact R.1.2.2.2.2.2.2.1.2.2.2
  rw [nw]
  refine sp_Ord_init (kc := 0) (ks := 0) (by rw [cd_k_new, if_pos rfl]) (by omega) (by rw [cd_n_new]; omega) (by rw [cd_n_new]; omega) (fun h2 C2 n2 k2 r0 i1 r2 i3 L2 => ?_)
  rw [cd_n_new] at n2 r2 L2
  have C02 : cd_ch (fun _ => False) h h2 := C1.old C2 (fun x hx z => by omega)
  have R2 := R.nw hbd C02
  have M2 : cc_mk h2 now (cd_n h) z (cd_n h + 1) 0 0 (sg_pc auts []) := ⟨⟨hn, k2, r0, i1, r2, i3⟩, by omega, L2⟩
  have E2 : cc_mx h2 ords (cd_n h + 1) := by
    have notisl : ¬ cc_isl h2 ords (cd_n h + 1) := fun zz => by
      rcases zz with e | e | e | e | ⟨y, hy, e⟩
      · omega
      · omega
      · omega
      · omega
      · have hyk := (R.2.2.2.1.mem hy).1.1
        rw [(C02.2.2 y (hbd _ _ hyk) (fun z => z)).2.2] at e
        obtain ⟨-, pl2, l', pb2, pcap2, d1, d2, d3⟩ := R.2.2.2.1.mem hy
        cases d1.symm.trans e
        have := hbd _ _ d3.2.1
        omega
    have S2 := R2.2.2.2.2.2
    refine ⟨⟨fun a a' b ha ha' hr hr' h64 => ?_, fun a b ha hr h64 => ?_⟩, notisl⟩
    · rcases ha with ha | rfl
      · rcases ha' with ha' | rfl
        · exact S2.1 a a' b ha ha' hr hr' h64
        · rw [L2.2.2.2.1] at hr'
          cases hr'
          omega
      · rw [L2.2.2.2.1] at hr
        cases hr
        omega
    · rcases ha with ha | rfl
      · exact S2.2 a b ha hr h64
      · rw [L2.2.2.2.1] at hr
        cases hr
        omega
  refine ⟨rfl, R2.1.1, ?_⟩
  show cd_W X m_Desk_makeOrder 78 2193 16 [some (.ref 64), some (.ref z), some (.int (nI l.length)), some (.ref (cd_n h)), some (.int (nI 0)), none, none] [] h2 Q
  refine cd_W.budget (kc := 0 + 23 * l.length) (ks := 0 + 688 * l.length) (by omega) (by omega) ?_
  refine sp_Desk_makeOrder_16 (P := P) hl hz hls hnm l.length 0 h2 AU auts [] b2 c2 0 0 (by omega) R2 (fun j q hj => ?_) hN hP (by rw [List.drop_zero]; exact hfr) (Nat.zero_le _) (fun p hp => by cases hp) M2 E2 (fun h' auts' b2' c2' pb' pcap' C' R' M' hp' E' => ?_)
  · rw [(C02.2.2 73 (by omega) (fun z => z)).1]
    exact st j q hj
  · rw [List.drop_zero] at R'
    rw [List.drop_zero, List.nil_append] at M' hp'
    exact hq h' auts' b2' c2' _ pb' pcap' (((cd_ch.rf cc_MK h).old C02 (fun _ _ z => z.elim)).old C' (fun _ _ z => z)) R' M' hp' E'
end VMN
