section VMM
variable {X : cd_E} {kc ks : Nat} {h h' : cd_H} {Q : Option Value → cd_H → Prop} {A : Nat → Prop} {T : Nat → Nat} {n life now cr gv us w : Nat} {sp : Nat → Bool} {ct : Option Nat} {NW : Nat → Option Nat} {AC : List sg_A} {OR : List sg_O} {CE : List sg_C} {accs ords cers : List Nat} {b1 c1 b3 c3 b4 c4 : Nat}
theorem sg_new_b {q c : Nat} (hs : tx_s T n q = some c) (hn : tx_nm T q (sg_sl T n q)) : ∀ j, j < sg_sl T n q → T (q + 1 + j) ≠ 34 ∧ T (q + 1 + j) ≠ 92 := fun j hj => by
  have := hn.2.1 j hj
  unfold tx_nc at this
  omega
theorem sp_AL_add32 {a b cap v c : Nat} {l : List Nat} (A : cc_lst h a l b cap) (hv : cd_k h v = some (.inl c)) (hca : cd_CA X c "java/lang/Object") (hlen : l.length ≤ 32) (hel : ∀ x, x ∈ l → ∃ c, cd_k h x = some (.inl c) ∧ cd_CA X c "java/lang/Object")
    (hq : ∀ h' b' cap', cd_ch (fun x => x = a ∨ (x = b ∧ 64 ≤ b)) h h' → cc_lst h' a (l ++ [v]) b' cap' → (b' = b ∨ b' = cd_n h) → cd_n h' ≤ cd_n h + 1 → Q (some (.int 1)) h') :
    cd_W X m_AL_add_LObjectZ (kc + 1) (ks + 40) 0 [some (.ref a), some (.ref v)] [] h Q := by
  by_cases h22 : l.length ≤ 22
  · exact sp_AL_add A hv hca h22 hel hq
  · obtain ⟨a1, a2, a3, a4, a5, a6, a7, a8⟩ := A
    have hab : a ≠ b := fun e => by rw [e, a5] at a2; cases a2
    have h64 : 64 ≤ b ∧ cap = 33 := by omega
    have e1 : ∀ j, ¬ j = 2 → cd_i (cd_si h a 2 (cd_i h a 2 + 1)) a j = cd_i h a j := fun j hj => by rw [cd_i_si, if_neg (fun z => hj z.2)]
    refine g_AL_add_LObjectZ ⟨a2, a1, b, a4, ?_⟩
    rw [e1 1 (by decide), a3]
    refine g_AL_add_LObjectALObjectIV (kc := 0) (ks := 0) ⟨cap, a5, fun hne => ?_, fun heq => ?_⟩
    · refine ⟨h64.1, vp_in_nI (by omega) (by omega), c, hv, hca, a2, a1, rfl, ?_⟩
      rw [nI_clamp (by omega), nI_1]
      refine hq _ b cap ?_ ⟨a1, a2, ?_, ?_, a5, ?_, Or.inr ⟨h64.1, by omega⟩, fun j hj => ?_⟩ (Or.inl rfl) (Nat.le_succ _)
      · exact ((cd_ch.si (Or.inl rfl)).tr (cd_ch.sr (Or.inr ⟨rfl, h64.1⟩))).tr (cd_ch.si (Or.inl rfl))
      · rw [cd_i_si, if_pos ⟨rfl, rfl⟩, List.length_append, List.length_singleton]
      · rw [cd_r_si, cd_r_sr, if_neg (fun z => hab z.1)]; exact a4
      · rw [List.length_append, List.length_singleton]; omega
      · rw [List.length_append, List.length_singleton] at hj
        rw [cd_r_si, cd_r_sr]
        by_cases e : j < l.length
        · rw [if_neg (fun z => by omega), List.getElem?_append_left e]
          exact a8 j e
        · have e2 : j = l.length := by omega
          subst e2
          rw [if_pos ⟨rfl, rfl⟩, List.getElem?_append_right (Nat.le_refl _), Nat.sub_self]
          rfl
    · rw [nI_eq (by omega) (by omega)] at heq
      omega
theorem sp_Aut_init {a z s : Nat} {p1 p4 p5 : Int32} (hk : cd_k h a = some (.inl 2)) (h64 : 64 ≤ a) (hq : ∀ h', cd_ch (fun x => x = a) h h' → cd_n h' = cd_n h → cd_k h' = cd_k h → (∀ x j, ¬ x = a → cd_i h' x j = cd_i h x j) → (∀ x j, ¬ x = a → cd_r h' x j = cd_r h x j) → cd_i h' a 0 = p1 → cd_r h' a 1 = some z → cd_r h' a 2 = some s → cd_i h' a 3 = p4 → cd_i h' a 4 = p5 → cd_i h' a 5 = 0 → cd_i h' a 6 = p4 → cd_i h' a 7 = -1 → Q none h') : cd_W X m_Aut_init kc ks 0 [some (.ref a), some (.int p1), some (.ref z), some (.ref s), some (.int p4), some (.int p5)] [] h Q := by
  refine g_Aut_init ⟨hk, h64, hq _ ?_ rfl rfl (fun x j hx => ?_) (fun x j hx => ?_) ?_ ?_ ?_ ?_ ?_ ?_ ?_ ?_⟩
  · exact ((((((((cd_ch.si (A := fun x => x = a) rfl).tr (cd_ch.si rfl)).tr (cd_ch.si rfl)).tr (cd_ch.sr rfl)).tr (cd_ch.sr rfl)).tr (cd_ch.si rfl)).tr (cd_ch.si rfl)).tr (cd_ch.si rfl))
  · rw [cd_i_si, if_neg (fun z => hx z.1), cd_i_si, if_neg (fun z => hx z.1), cd_i_si, if_neg (fun z => hx z.1), cd_i_sr, cd_i_sr, cd_i_si, if_neg (fun z => hx z.1), cd_i_si, if_neg (fun z => hx z.1), cd_i_si, if_neg (fun z => hx z.1)]
  · rw [cd_r_si, cd_r_si, cd_r_si, cd_r_sr, if_neg (fun z => hx z.1), cd_r_sr, if_neg (fun z => hx z.1), cd_r_si, cd_r_si, cd_r_si]
  · rw [cd_i_si, if_neg (fun z => by cases z.2), cd_i_si, if_neg (fun z => by cases z.2), cd_i_si, if_neg (fun z => by cases z.2), cd_i_sr, cd_i_sr, cd_i_si, if_pos ⟨rfl, rfl⟩]
  · rw [cd_r_si, cd_r_si, cd_r_si, cd_r_sr, if_neg (fun z => by cases z.2), cd_r_sr, if_pos ⟨rfl, rfl⟩]
  · rw [cd_r_si, cd_r_si, cd_r_si, cd_r_sr, if_pos ⟨rfl, rfl⟩]
  · rw [cd_i_si, if_neg (fun z => by cases z.2), cd_i_si, if_neg (fun z => by cases z.2), cd_i_si, if_pos ⟨rfl, rfl⟩]
  · rw [cd_i_si, if_neg (fun z => by cases z.2), cd_i_si, if_pos ⟨rfl, rfl⟩]
  · rw [cd_i_si, if_neg (fun z => by cases z.2), cd_i_si, if_neg (fun z => by cases z.2), cd_i_si, if_neg (fun z => by cases z.2), cd_i_sr, cd_i_sr, cd_i_si, if_neg (fun z => by cases z.2), cd_i_si, if_neg (fun z => by cases z.2), cd_i_si, if_pos ⟨rfl, rfl⟩]
  · rw [cd_i_si, if_pos ⟨rfl, rfl⟩]
  · rw [cd_i_si, if_neg (fun z => by cases z.2), cd_i_si, if_neg (fun z => by cases z.2), cd_i_si, if_neg (fun z => by cases z.2), cd_i_sr, cd_i_sr, cd_i_si, if_neg (fun z => by cases z.2), cd_i_si, if_pos ⟨rfl, rfl⟩]
variable {AU : List sg_U} {auts ps : List Nat} {b2 c2 pb pcap i z ox pl q : Nat} {G : cd_H → Prop}
theorem sp_mk_add {h3 : cd_H} {nn s bb : Nat} (R : cc_R h T n life now NW AC AU OR CE accs auts ords cers b1 c1 b2 c2 b3 c3 b4 c4) (hbd : cd_bd h) (hlt : AU.length < 24) (hz : accs[i]? = some z) (hlen : 1 ≤ sg_sl T n q ∧ sg_sl T n q ≤ 12) (hps : ps.length ≤ 3) (hpl : ∀ p, p ∈ ps → p < auts.length) (M : cc_mk h now ox z pl pb pcap (sg_pc auts ps)) (E : cc_mx h ords pl) (C3 : cd_ch (fun _ => False) h h3) (n1 : cd_n h ≤ nn) (n3 : nn < cd_n h3) (k3n : cd_k h3 nn = some (.inl 2)) (e0 : cd_i h3 nn 0 = nI AU.length) (g1 : cd_r h3 nn 1 = some z) (g2 : cd_r h3 nn 2 = some s) (e3 : cd_i h3 nn 3 = nI now) (e4 : cd_i h3 nn 4 = nI (sg_pl AU (sg_new T n i now q))) (e5 : cd_i h3 nn 5 = 0) (e6 : cd_i h3 nn 6 = nI now) (e7 : cd_i h3 nn 7 = -1) (S3 : cc_str h3 s (sgu_N (sg_new T n i now q)) (sgu_len (sg_new T n i now q))) (q1 : cd_n h ≤ s) (sb3 : cd_r h3 s 0 = some bb) (q3 : cd_n h ≤ bb)
    (hG : ∀ h5 b' cap' pb' pcap', cd_ch cc_MK h h5 → cc_R h5 T n life now NW AC (AU ++ [sg_new T n i now q]) OR CE accs (auts ++ [nn]) ords cers b1 c1 b' cap' b3 c3 b4 c4 → cc_mk h5 now ox z pl pb' pcap' (sg_pc (auts ++ [nn]) (ps ++ [AU.length])) → cc_mx h5 ords pl → G h5) :
    cd_W X m_AL_add_LObjectZ 1 40 0 [some (.ref 80), some (.ref nn)] [] h3 (fun r34 h35 => ∃ x36 : Int32, r34 = some (.int x36) ∧ ((cc_ok h35) ∧ ((cd_k h35 ox = some (.inl 8)) ∧ ((∃ b39 : Nat, (cd_r h35 ox 2) = some b39 ∧ ((cd_k h35 b39 = some (.inl 12)) ∧ (cd_W X m_AL_add_LObjectZ 1 40 0 [some (.ref b39), some (.ref nn)] [] h35 (fun r42 h43 => ∃ x44 : Int32, r42 = some (.int x44) ∧ ((cc_ok h43) ∧ (G h43)))))))))) := by
  have F := R.1.1
  have hn := R.1.2.1
  have U := R.2.2.1
  have O := R.2.2.2.1
  have u1 := U.1
  have u3 := U.2.2.1
  have hL : cc_lst h pl (sg_pc auts ps) pb pcap := M.2.2
  have hcells : ∀ x, x ∈ sg_pc auts ps → x ∈ auts := fun x hx => by
    unfold sg_pc at hx
    rw [List.mem_map] at hx
    obtain ⟨p, hp1, rfl⟩ := hx
    have := hpl p hp1
    rw [List.getD_eq_getElem?_getD, List.getElem?_eq_getElem this]
    exact List.getElem_mem this
  have hcl : (sg_pc auts ps).length = ps.length := by unfold sg_pc; rw [List.length_map]
  have R3 := R.nw hbd C3
  have U3 := R3.2.2.1
  refine cd_W.bd (fun bd3 => sp_AL_add32 (kc := 0) (ks := 0) U3.2.1 k3n cs_2 (by omega) (fun x hx => ⟨2, (U3.mem hx).1, cs_2⟩) (fun h4 b' cap' C4 L4 hb4 hn4 => ?_))
  have C04 : cd_ch (fun x => x = 80 ∨ (x = b2 ∧ 64 ≤ b2)) h h4 := ((cd_ch.rf (fun x => x = 80 ∨ (x = b2 ∧ 64 ≤ b2)) h).old C3 (fun x _ z => z.elim)).old C4 (fun x _ z => z)
  have hb4' : b' = b2 ∨ cd_n h ≤ b' := by
    rcases hb4 with z | z
    · exact Or.inl z
    · exact Or.inr (by omega)
  obtain ⟨B4, A4, -, O4, Ce4, Sp4⟩ := cc_R.ad R hbd (a := 80) (Or.inr (Or.inr (Or.inl rfl))) U.2.1 C04 ⟨b', L4.2.2.2.1, hb4'⟩
  have kin3 : ∀ x qq, cd_k h3 x = some (.inl qq) → ¬ qq = 12 → ¬ (x = 80 ∨ (x = b2 ∧ 64 ≤ b2)) := fun x qq hx h1 zz => by
    rcases zz with zz | zz
    · rw [zz, U3.2.1.2.1] at hx; cases hx; exact h1 rfl
    · rw [zz.1, U3.2.1.2.2.2.2.1] at hx; cases hx
  obtain ⟨p1, p2, p3⟩ := C4.2.2 nn n3 (kin3 _ _ k3n (by decide))
  obtain ⟨t1, t2, t3⟩ := C4.2.2 s (bd3 _ _ S3.1) (kin3 _ _ S3.1 (by decide))
  have S4 : cc_str h4 s (sgu_N (sg_new T n i now q)) (sgu_len (sg_new T n i now q)) := S3.ch C4 bd3 (fun x hx => ⟨fun hk => kin3 x _ hk (by decide) hx, fun m hk => by
    rcases hx with hx | hx
    · rw [hx, U3.2.1.2.1] at hk; cases hk
    · rw [hx.1, U3.2.1.2.2.2.2.1] at hk; cases hk⟩)
  have kinh : ∀ x qq, cd_k h x = some (.inl qq) → ¬ qq = 12 → ¬ (x = 80 ∨ (x = b2 ∧ 64 ≤ b2)) := fun x qq hx h1 zz => by
    rcases zz with zz | zz
    · rw [zz, U.2.1.2.1] at hx; cases hx; exact h1 rfl
    · rw [zz.1, U.2.1.2.2.2.2.1] at hx; cases hx
  have U4 : cc_aut h4 now accs (AU ++ [sg_new T n i now q]) (auts ++ [nn]) b' cap' := by
    refine U.push (v := sg_new T n i now q) hbd (by omega) C04 (fun x hx => ⟨fun hk => kinh x _ hk (by decide) hx, fun hk => kinh x _ hk (by decide) hx, fun m hk => ?_⟩) L4 (by omega) n1 (by rw [C4.2.1 _ n3]; exact k3n) (by rw [p1]; exact e0) hz (by rw [p3]; exact g1) (by rw [p3]; exact g2) S4 (by omega) (by rw [t3]; exact sb3) (by omega) (by rw [p1]; exact e3) (by rw [p1]; exact e4) (by rw [p1]; exact e5) (by rw [p1]; exact e6) (by rw [p1]; exact e7) ⟨Nat.zero_le _, Nat.zero_le _, Nat.le_refl _, Nat.le_refl _⟩ (fun _ => rfl) hlen
    rcases hx with hx | hx
    · rw [hx, U.2.1.2.1] at hk; cases hk
    · rw [hx.1, U.2.1.2.2.2.2.1] at hk; cases hk
  have hparts : ∀ (i : Nat) (o : sg_O), OR[i]? = some o → ∀ p, p ∈ sgo_parts o → p < AU.length := fun i o ho p hp => by
    have hil := (List.getElem?_eq_some_iff.mp ho).1
    have o3 := O.2.2.1
    have := (O.2.2.2.2 i _ o (List.getElem?_eq_getElem (by omega : i < ords.length)) ho).2.2.2.2.2.1 p hp
    omega
  have R4 : cc_R h4 T n life now NW AC (AU ++ [sg_new T n i now q]) OR CE accs (auts ++ [nn]) ords cers b1 c1 b' cap' b3 c3 b4 c4 := ⟨B4, A4 (by decide), U4, (O4 (by decide)).aut, (Ce4 (by decide)).aut hparts, Sp4⟩
  have nb80 : ¬ pl = 80 := by have := M.2.1; omega
  have M4 : cc_mk h4 now ox z pl pb pcap (sg_pc auts ps) := by
    refine M.ch hbd C04 (kinh _ _ M.1.2.1 (by decide)) (fun zz => ?_) (fun zz => ?_)
    · rcases zz with zz | zz
      · exact nb80 zz
      · have := hL.2.1
        rw [zz.1, U.2.1.2.2.2.2.1] at this
        cases this
    · rcases zz with zz | zz
      · have := hL.2.2.2.2.1
        rw [zz, U.2.1.2.1] at this
        cases this
      · exact nb80 (E.1.1 pl 80 b2 (Or.inr rfl) (Or.inl (Or.inr (Or.inr (Or.inl rfl)))) (by rw [← zz.1]; exact hL.2.2.2.1) U.2.1.2.2.2.1 zz.2)
  have E4 : cc_mx h4 ords pl := cc_mx.add R hbd hL E (Or.inl (Or.inr (Or.inr (Or.inl rfl)))) U.2.1 C04 L4.2.2.2.1 hb4'
  have nxt : (sg_pc auts ps) ++ [nn] = sg_pc (auts ++ [nn]) (ps ++ [AU.length]) := by
    have ey : (auts ++ [nn]).getD AU.length 0 = nn := by
      rw [List.getD_eq_getElem?_getD, ← u3, List.getElem?_append_right (Nat.le_refl _), Nat.sub_self]
      rfl
    have e1 : sg_pc (auts ++ [nn]) ps = sg_pc auts ps := sg_pc_app hpl
    unfold sg_pc at e1 ⊢
    rw [List.map_append, e1, List.map_cons, List.map_nil, ey]
  refine ⟨_, rfl, B4.1, M4.1.2.1, pl, M4.1.2.2.2.2.1, M4.2.2.2.1, cd_W.bd (fun bd4 => sp_AL_add (kc := 0) (ks := 0) (v := nn) (c := 2) M4.2.2 (U4.mem (List.mem_append_right _ (List.mem_singleton.mpr rfl))).1 cs_2 (by omega) (fun x hx => ⟨2, (U4.mem (List.mem_append_left _ (hcells x hx))).1, cs_2⟩) (fun h5 pb' pcap' C5 L5 hb5 hn5 => ⟨_, rfl, ?_⟩))⟩
  have R5 := R4.ex bd4 M4.2.2 M4.2.1 E4 C5
  have E5 : cc_mx h5 ords pl := cc_mx.add R4 bd4 M4.2.2 E4 (Or.inr rfl) M4.2.2 C5 L5.2.2.2.1 (by rcases hb5 with z | z; exact Or.inl z; exact Or.inr (by omega))
  have M5 : cc_mk h5 now ox z pl pb' pcap' (sg_pc (auts ++ [nn]) (ps ++ [AU.length])) := by
    obtain ⟨⟨m1, m2, m3, m4, m5, m6⟩, m7, m8⟩ := M4
    have nox : ¬ (ox = pl ∨ (ox = pb ∧ 64 ≤ pb)) := fun zz => by
      rcases zz with zz | zz
      · rw [zz, m8.2.1] at m2; cases m2
      · rw [zz.1, m8.2.2.2.2.1] at m2; cases m2
    obtain ⟨w1, w2, w3⟩ := C5.2.2 ox (bd4 _ _ m2) nox
    exact ⟨⟨m1, by rw [C5.2.1 _ (bd4 _ _ m2)]; exact m2, by rw [w3]; exact m3, by rw [w1]; exact m4, by rw [w3]; exact m5, by rw [w1]; exact m6⟩, m7, by rw [← nxt]; exact L5⟩
  refine ⟨R5.1.1, hG h5 b' cap' pb' pcap' (((cd_ch.rf cc_MK h).old C04 (fun x _ hx => ?_)).old C5 (fun x _ hx => ?_)) R5 M5 E5⟩
  · rcases hx with rfl | ⟨rfl, hx⟩
    · exact Or.inl rfl
    · exact Or.inr (E.1.2 80 x (Or.inl (Or.inr (Or.inr (Or.inl rfl)))) U.2.1.2.2.2.1 hx)
  · rcases hx with rfl | ⟨rfl, hx⟩
    · exact Or.inr M.2.1
    · exact Or.inr (E4.1.2 pl x (Or.inr rfl) M4.2.2.2.2.2.1 hx)
theorem sp_mk_new {c : Nat} (R : cc_R h T n life now NW AC AU OR CE accs auts ords cers b1 c1 b2 c2 b3 c3 b4 c4) (hbd : cd_bd h) (hlt : AU.length < 24) (hz : accs[i]? = some z) (hs : tx_s T n q = some c) (hlen : 1 ≤ sg_sl T n q ∧ sg_sl T n q ≤ 12) (hps : ps.length ≤ 3) (hpl : ∀ p, p ∈ ps → p < auts.length) (M : cc_mk h now ox z pl pb pcap (sg_pc auts ps)) (E : cc_mx h ords pl)
    (hG : ∀ h5 nn b' cap' pb' pcap', cd_ch cc_MK h h5 → cc_R h5 T n life now NW AC (AU ++ [sg_new T n i now q]) OR CE accs (auts ++ [nn]) ords cers b1 c1 b' cap' b3 c3 b4 c4 → cc_mk h5 now ox z pl pb' pcap' (sg_pc (auts ++ [nn]) (ps ++ [AU.length])) → cc_mx h5 ords pl → G h5) :
    cd_W X m_Not_string 20 600 0 [some (.ref 71), some (.int (nI q)), none, none, none] [] h (fun r18 h19 => ∃ b20 : Nat, r18 = some (.ref b20) ∧ ((cc_ok h19) ∧ ((82 ≤ cd_n h19) ∧ (cd_W X m_AL_size 0 0 0 [some (.ref 80)] [] (cd_new h19 (.inl 2)) (fun r23 h24 => ∃ x25 : Int32, r23 = some (.int x25) ∧ ((cc_ok h24) ∧ (cd_W X m_Desk_placeOf 0 0 0 [some (.ref 64), some (.ref b20), none] [] h24 (fun r27 h28 => ∃ x29 : Int32, r27 = some (.int x29) ∧ ((cc_ok h28) ∧ (cd_W X m_Aut_init 0 0 0 [some (.ref (cd_n h19)), some (.int x25), some (.ref z), some (.ref b20), some (.int (cd_i h24 64 12)), some (.int x29)] [] h28 (fun r31 h32 => (r31 = none) ∧ ((cc_ok h32) ∧ (cd_W X m_AL_add_LObjectZ 1 40 0 [some (.ref 80), some (.ref (cd_n h19))] [] h32 (fun r34 h35 => ∃ x36 : Int32, r34 = some (.int x36) ∧ ((cc_ok h35) ∧ ((cd_k h35 ox = some (.inl 8)) ∧ ((∃ b39 : Nat, (cd_r h35 ox 2) = some b39 ∧ ((cd_k h35 b39 = some (.inl 12)) ∧ (cd_W X m_AL_add_LObjectZ 1 40 0 [some (.ref b39), some (.ref (cd_n h19))] [] h35 (fun r42 h43 => ∃ x44 : Int32, r42 = some (.int x44) ∧ ((cc_ok h43) ∧ (G h43))))))))))))))))))))))) := by
  have F := R.1.1
  have hn := R.1.2.1
  have Z := R.1.2.2.2.2.2.2.2.2
  have U := R.2.2.1
  have u3 := U.2.2.1
  have hsl := sg_sl_eq hs
  refine sp_Not_string F Z hs (by omega) (by omega) (fun h1 s bb C1 S1 q1 q2 q3 q4 q5 F1 => ⟨s, rfl, F1, by have := C1.1; omega, ?_⟩)
  have n1 : cd_n h ≤ cd_n h1 := C1.1
  have C2 : cd_ch (fun _ => False) h (cd_new h1 (.inl 2)) := C1.old cd_ch.new (fun _ _ z => z)
  have R2 := R.nw hbd C2
  have F2 := R2.1.1
  have U2 := R2.2.2.1
  have ws : ¬ s = cd_n h1 := by omega
  have wb : ¬ bb = cd_n h1 := by omega
  have S2 : cc_str (cd_new h1 (.inl 2)) s (sgu_N (sg_new T n i now q)) (sgu_len (sg_new T n i now q)) := by
    obtain ⟨w1, w2, w3, b, w4, w5, w6⟩ := S1
    have hb : b = bb := Option.some.inj (w4.symm.trans q2)
    subst hb
    show cc_str _ s (fun u => T (q + 1 + u)) (sg_sl T n q)
    rw [hsl]
    exact ⟨by rw [cd_k_new, if_neg ws]; exact w1, by rw [cd_i_new, if_neg ws]; exact w2, w3, b, by rw [cd_r_new, if_neg ws]; exact w4, by rw [cd_k_new, if_neg wb]; exact w5, fun j hj => by rw [cd_i_new, if_neg wb]; exact w6 j hj⟩
  have r2 : cd_r (cd_new h1 (.inl 2)) s 0 = some bb := by rw [cd_r_new, if_neg ws]; exact q2
  have k2 : cd_k (cd_new h1 (.inl 2)) (cd_n h1) = some (.inl 2) := by rw [cd_k_new, if_pos rfl]
  have n2 : cd_n (cd_new h1 (.inl 2)) = cd_n h1 + 1 := rfl
  have nw2 : cd_i (cd_new h1 (.inl 2)) 64 12 = nI now := R2.1.2.2.2.2.2.2.1.2.2.2
  generalize cd_new h1 (.inl 2) = h2 at *
  refine sp_AL_size U2.2.1 ⟨_, rfl, F2, sp_Desk_placeOf F2 U2 S2 ⟨_, rfl, F2, ?_⟩⟩
  rw [nw2]
  refine sp_Aut_init k2 (by omega) (fun h3 C23 n3 k3 i3 r3 e0 g1 g2 e3 e4 e5 e6 e7 => ?_)
  have C3 : cd_ch (fun _ => False) h h3 := C2.old C23 (fun x hx z => by omega)
  have S3 : cc_str h3 s (sgu_N (sg_new T n i now q)) (sgu_len (sg_new T n i now q)) := by
    obtain ⟨w1, w2, w3, b, w4, w5, w6⟩ := S2
    have hb : b = bb := Option.some.inj (w4.symm.trans r2)
    subst hb
    exact ⟨by rw [k3]; exact w1, by rw [i3 _ _ ws]; exact w2, w3, b, by rw [r3 _ _ ws]; exact w4, by rw [k3]; exact w5, fun j hj => by rw [i3 _ _ wb]; exact w6 j hj⟩
  refine ⟨rfl, R.1.1.ch C3 (fun _ _ z => z) (by omega), ?_⟩
  exact sp_mk_add R hbd hlt hz hlen hps hpl M E C3 n1 (by omega) (by rw [k3]; exact k2) (by rw [← u3]; exact e0) g1 g2 e3 e4 e5 e6 e7 S3 q1 (by rw [r3 _ _ ws]; exact r2) q3 (fun h5 b' cap' pb' pcap' => hG h5 (cd_n h1) b' cap' pb' pcap')
end VMM
