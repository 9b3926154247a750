theorem cc_RL_in : ∀ z ∈ cc_RL, z.1 = 64 ∨ z.1 = 65 ∨ z.1 = 71 ∨ z.1 = 74 := by decide
theorem cc_ok.ch2 {A : Nat → Prop} {h h' : cd_H} (F : cc_ok h) (C : cd_ch A h h') (hn : 82 ≤ cd_n h) (h1 : ¬ A 64) (h2 : ¬ A 65) (h3 : ¬ A 71) (h4 : ¬ A 74) : cc_ok h' :=
  ⟨fun z hz => by have hl := cc_KL_lt z hz; rw [C.2.1 z.1 (by omega)]; exact F.1 z hz, fun z hz => by
    have hl := cc_RL_lt z hz
    have hA : ¬ A z.1 := by
      rcases cc_RL_in z hz with e | e | e | e <;> rw [e] <;> assumption
    rw [(C.2.2 z.1 (by omega) hA).2.2]; exact F.2 z hz⟩
def cc_cn (h : cd_H) (x : Nat) (nms : List (Nat × (Nat → Nat))) : Prop := cd_k h x = some (.inl 8) ∧ nms.length ≤ 3 ∧ ∃ (pl : Nat) (cells : List Nat) (pb pcap : Nat), cd_r h x 2 = some pl ∧ cc_lst h pl cells pb pcap ∧ cells.length = nms.length ∧ ∀ (k : Nat) (q : Nat × (Nat → Nat)), nms[k]? = some q → ∃ y s, cells[k]? = some y ∧ cd_k h y = some (.inl 2) ∧ cd_r h y 2 = some s ∧ cc_str h s q.2 q.1 ∧ q.1 ≤ 12
theorem cc_cn.ch {A : Nat → Prop} {h h' : cd_H} {x : Nat} {nms : List (Nat × (Nat → Nat))} (N : cc_cn h x nms) (hn : cd_bd h) (C : cd_ch A h h') (hA : ∀ x, A x → cd_k h x = some (.inl 7) ∨ cd_k h x = some (.inr (0, 80))) : cc_cn h' x nms := by
  obtain ⟨c1, c2, pl, cells, pb, pcap, c3, c4, c5, c6⟩ := N
  have nA : ∀ y q, cd_k h y = some q → ¬ q = .inl 7 → ¬ q = .inr (0, 80) → ¬ A y := fun y q hy h1 h2 z => by
    rcases hA y z with e | e
    · rw [hy] at e; exact h1 (Option.some.inj e)
    · rw [hy] at e; exact h2 (Option.some.inj e)
  obtain ⟨p1, p2, p3⟩ := C.2.2 x (hn _ _ c1) (nA _ _ c1 (fun z => by cases z) (fun z => by cases z))
  refine ⟨by rw [C.2.1 x (hn _ _ c1)]; exact c1, c2, pl, cells, pb, pcap, by rw [p3]; exact c3, c4.ch C (hn _ _ c4.2.1) (hn _ _ c4.2.2.2.2.1) (nA _ _ c4.2.1 (fun z => by cases z) (fun z => by cases z)) (nA _ _ c4.2.2.2.2.1 (fun z => by cases z) (fun z => by cases z)), c5, fun k q hq => ?_⟩
  obtain ⟨y, s, d1, d2, d3, d4, d5⟩ := c6 k q hq
  obtain ⟨q1, q2, q3⟩ := C.2.2 y (hn _ _ d2) (nA _ _ d2 (fun z => by cases z) (fun z => by cases z))
  refine ⟨y, s, d1, by rw [C.2.1 y (hn _ _ d2)]; exact d2, by rw [q3]; exact d3, d4.ch C hn (fun w hw => ⟨fun z => ?_, fun n z => ?_⟩), d5⟩
  · rcases hA w hw with e | e <;> rw [z] at e <;> cases e
  · rcases hA w hw with e | e <;> rw [z] at e <;> cases e
theorem sg_bs_b (v : Nat) : ∀ c x, x ∈ sg_bs v c → x < 65536
  | 0, x, hx => by cases hx
  | c + 1, x, hx => by
    rw [sg_bs, List.mem_cons] at hx
    rcases hx with rfl | hx
    · omega
    · exact sg_bs_b v c x hx
theorem sg_int_b (v : Nat) : ∀ x, x ∈ sg_int v → x < 65536 := fun x hx => by
  have := (sg_bc_le v).2
  rw [sg_int, List.mem_cons, List.mem_cons] at hx
  rcases hx with rfl | rfl | hx
  · decide
  · omega
  · exact sg_bs_b v _ x hx
theorem sg_nmL_b : ∀ (l : List (Nat × (Nat → Nat))), (∀ q, q ∈ l → q.1 ≤ 12 ∧ ∀ j, j < q.1 → q.2 j < 65536) → ∀ x, x ∈ sg_nmL l → x < 65536
  | [], _, x, hx => by cases hx
  | q :: l, hq, x, hx => by
    rw [sg_nmL, List.mem_append] at hx
    rcases hx with hx | hx
    · obtain ⟨a, b⟩ := hq q (List.mem_cons_self ..)
      rw [sg_nm1, List.mem_cons, List.mem_cons, List.mem_map] at hx
      rcases hx with rfl | rfl | ⟨j, hj, rfl⟩
      · decide
      · omega
      · rw [List.mem_range'_1] at hj
        exact b j (by omega)
    · exact sg_nmL_b l (fun p hp => hq p (List.mem_cons_of_mem _ hp)) x hx
theorem sg_nmL_app (q : Nat × (Nat → Nat)) : ∀ l, sg_nmL (l ++ [q]) = sg_nmL l ++ sg_nm1 q
  | [] => List.append_nil _
  | a :: l => by rw [List.cons_append, sg_nmL, sg_nmL_app q l, sg_nmL, List.append_assoc]
theorem sg_bdy_b {nms : List (Nat × (Nat → Nat))} (h3 : nms.length ≤ 3) (hq : ∀ q, q ∈ nms → q.1 ≤ 12 ∧ ∀ j, j < q.1 → q.2 j < 65536) (i made key : Nat) : ∀ x, x ∈ sg_bdy nms i made key → x < 65536 := fun x hx => by
  have l1 := sg_nmL_len nms (fun q h => (hq q h).1)
  have l2 := sg_fou_len i made key
  rw [sg_bdy, sg_row, List.mem_cons, List.mem_cons, List.mem_append, sg_row, List.mem_cons, List.mem_cons] at hx
  rcases hx with rfl | rfl | hx | rfl | rfl | hx
  · decide
  · rw [List.length_append, List.length_cons, List.length_cons]; omega
  · rw [sg_fou, List.mem_append, List.mem_append, List.mem_append] at hx
    rcases hx with ((hx | hx) | hx) | hx <;> exact sg_int_b _ x hx
  · decide
  · omega
  · exact sg_nmL_b nms hq x hx
section VCE
variable {X : cd_E} {kc ks : Nat} {h : cd_H} {Q : Option Value → cd_H → Prop} {o ob x : Nat} {nms : List (Nat × (Nat → Nat))}
theorem cc_cn.b (N : cc_cn h x nms) : ∀ q, q ∈ nms → q.1 ≤ 12 ∧ ∀ j, j < q.1 → q.2 j < 65536 := fun q hq => by
  obtain ⟨c1, c2, pl, cells, pb, pcap, c3, c4, c5, c6⟩ := N
  obtain ⟨k, hk⟩ := List.getElem?_of_mem hq
  obtain ⟨y, s, d1, d2, d3, ⟨e1, e2, e3, b, e4, e5, e6⟩, d5⟩ := c6 k q hk
  exact ⟨d5, fun j hj => by have := (e6 j hj).2; omega⟩
theorem cc_oct.two {l : List Nat} (O : cc_oct h o ob l) : ∀ x, (x = o ∨ x = ob) → cd_k h x = some (.inl 7) ∨ cd_k h x = some (.inr (0, 80)) := fun x hx => by
  rcases hx with rfl | rfl
  · exact Or.inl O.2.1
  · exact Or.inr O.2.2.2.2.1
def sg_sea (nms : List (Nat × (Nat → Nat))) (i made key : Nat) : Nat := sg_sig 4 (sg_dgL (sg_bdy nms i made key))
theorem sg_dgL_lt (l : List Nat) (h : l ≠ []) : sg_dgL l < 2147483647 := by
  rw [sg_dgL]
  obtain ⟨a, b, e⟩ : ∃ a b, l = a ++ [b] := ⟨l.dropLast, l.getLast h, (List.dropLast_concat_getLast h).symm⟩
  rw [e, List.foldl_append]
  exact cd_dg_lt _ _
theorem sp_Desk_certify_66 {i made key : Nat} (ho : 82 ≤ o) (hob : 82 ≤ ob) : ∀ (r k : Nat) (h : cd_H) (ns : List Nat), r + k = nms.length → cc_ok h → 82 ≤ cd_n h → cc_kys h → ns = sg_nmL (nms.take k) → cc_oct h o ob ([48, 0] ++ 48 :: 0 :: (sg_fou i made key ++ 48 :: 0 :: ns)) → cc_cn h x nms → (∀ h', cd_ci (fun x => x = o ∨ x = ob) h h' → cc_oct h' o ob (sg_crt nms i made key (sg_sea nms i made key)) → Q (some (.ref o)) h') → cd_W X m_Desk_certify kc ks 66 [some (.ref 64), some (.ref x), none, none, some (.ref o), some (.int (nI 0)), some (.int (nI 2)), some (.int (nI (4 + (sg_fou i made key).length))), some (.int (nI k))] [] h Q := by
  have fl := sg_fou_len i made key
  intro r
  induction r with
  | zero =>
    intro k h ns hk F hn82 Ky ens O N hq
    have N0 := N
    obtain ⟨c1, c2, pl, cells, pb, pcap, c3, c4, c5, c6⟩ := N
    have nl := sg_nmL_len nms (fun q h => (N0.b q h).1)
    rw [List.take_of_length_le (by omega)] at ens
    subst ens
    refine g_Desk_certify_66 F ⟨c1, pl, c3, c4.2.1, sp_AL_size c4 ⟨_, rfl, F, ?_⟩⟩
    rw [nI_leI (by omega) (by omega)]
    refine ⟨fun _ => ⟨O.2.1, ?_⟩, fun t => by omega⟩
    have e1 : [48, 0] ++ 48 :: 0 :: (sg_fou i made key ++ 48 :: 0 :: sg_nmL nms) = ([48, 0, 48, 0] ++ sg_fou i made key) ++ 48 :: 0 :: sg_nmL nms := by
      simp only [List.append_assoc, List.cons_append, List.nil_append]
    rw [e1] at O
    have e2 : 4 + (sg_fou i made key).length = ([48, 0, 48, 0] ++ sg_fou i made key).length := by
      simp only [List.length_append, List.length_cons, List.length_nil]
    rw [e2]
    refine sp_Oct_closeRow F O (fun h1 C1 O1 => ⟨rfl, C1.ok F, O1.2.1, ?_⟩)
    have e3 : ([48, 0, 48, 0] ++ sg_fou i made key) ++ sg_row (sg_nmL nms) = [48, 0] ++ 48 :: 0 :: (sg_fou i made key ++ sg_row (sg_nmL nms)) := by
      simp only [List.append_assoc, List.cons_append, List.nil_append]
    rw [e3] at O1
    show cd_W X m_Oct_closeRow 0 0 0 [some (.ref o), some (.int (nI ([48, 0] : List Nat).length))] [] h1 _
    refine sp_Oct_closeRow (C1.ok F) O1 (fun h2 C2 O2 => ⟨rfl, C2.ok (C1.ok F), O2.2.1, g_Oct_digestFrom (C2.ok (C1.ok F)) ?_⟩)
    have C12 := C1.tr C2
    have O2b : cc_oct h2 o ob ([48, 0] ++ sg_bdy nms i made key) := O2
    have hbl := sg_bdy_len c2 (fun q h => (N0.b q h).1) i made key
    have hbb := sg_bdy_b c2 N0.b i made key
    show cd_W X m_Oct_digestFrom 0 0 5 [some (.ref o), none, some (.int (nI 7)), some (.int (nI 2))] [] h2 _
    refine sp_Oct_digestFrom_5 (C12.ok F) O2b (fun v hv => ?_) (sg_bdy nms i made key).length 2 7 (by simp only [List.length_append, List.length_cons, List.length_nil]; omega) (by decide) ⟨_, rfl, C12.ok F, ?_⟩
    · rw [List.mem_append] at hv
      rcases hv with hv | hv
      · simp only [List.mem_cons, List.not_mem_nil, or_false] at hv
        omega
      · exact hbb v hv
    · have ed : (([48, 0] ++ sg_bdy nms i made key).drop 2).foldl cd_dg 7 = sg_dgL (sg_bdy nms i made key) := rfl
      rw [ed]
      have hd := sg_dgL_lt (sg_bdy nms i made key) (by rw [sg_bdy, sg_row]; exact List.cons_ne_nil _ _)
      have Ky2 : cc_kys h2 := Ky.ch C12.ch hn82 (fun x h1 h2 z => by omega)
      show cd_W X m_Key_sign 0 0 0 [some (.ref (66 + 4)), some (.int (nI (sg_dgL (sg_bdy nms i made key))))] [] h2 _
      refine sp_Key_sign (C12.ok F) Ky2 (by decide) (by omega) ⟨_, rfl, C12.ok F, O2.2.1, ?_⟩
      refine sp_Oct_putSeal (sg_sig_lt (by decide) _) (C12.ok F) O2b (by simp only [List.length_append, List.length_cons, List.length_nil]; omega) (fun h3 C3 O3 => ⟨rfl, C3.ok (C12.ok F), O3.2.1, ?_⟩)
      have C13 := C12.tr C3
      have O3b : cc_oct h3 o ob ([] ++ 48 :: 0 :: (sg_bdy nms i made key ++ sg_slL (sg_sea nms i made key))) := O3
      show cd_W X m_Oct_closeRow 0 0 0 [some (.ref o), some (.int (nI ([] : List Nat).length))] [] h3 _
      exact sp_Oct_closeRow (C13.ok F) O3b (fun h4 C4 O4 => ⟨rfl, C4.ok (C13.ok F), hq h4 (C13.tr C4) O4⟩)
  | succ r ih =>
    intro k h ns hk F hn82 Ky ens O N hq
    refine cd_W.bd (fun hbd => ?_)
    have N0 := N
    obtain ⟨c1, c2, pl, cells, pb, pcap, c3, c4, c5, c6⟩ := N
    have hkl : k < nms.length := by omega
    have hek : nms[k]? = some nms[k] := List.getElem?_eq_getElem hkl
    obtain ⟨y, s, d1, d2, d3, d4, d5⟩ := c6 k _ hek
    have nl := sg_nmL_len (nms.take k) (fun q h => (N0.b q (List.mem_of_mem_take h)).1)
    rw [List.length_take, Nat.min_eq_left (by omega)] at nl
    subst ens
    refine g_Desk_certify_66 F ⟨c1, pl, c3, c4.2.1, sp_AL_size c4 ⟨_, rfl, F, ?_⟩⟩
    rw [nI_leI (by omega) (by omega)]
    refine ⟨fun t => by omega, fun _ => ⟨c1, pl, c3, c4.2.1, sp_AL_get c4 d1 ⟨some y, rfl, F, y, rfl, d2, s, d3, O.2.1, ?_⟩⟩⟩
    refine sp_Oct_putName d5 F O (by simp only [List.length_append, List.length_cons, List.length_nil]; omega) d4 (fun h1 C1 O1 => ⟨rfl, C1.ok F, ?_⟩)
    rw [nI_1]
    refine ih (k + 1) h1 _ (by omega) (C1.ok F) (by rw [C1.1]; exact hn82) (Ky.ch C1.ch hn82 (fun x h1 h2 z => by omega)) rfl ?_ (N0.ch hbd C1.ch O.two) (fun h2 C2 O2 => hq h2 (C1.tr C2) O2)
    have et : sg_nmL (nms.take (k + 1)) = sg_nmL (nms.take k) ++ sg_nm1 nms[k] := by
      rw [List.take_succ, hek, Option.toList_some]
      exact sg_nmL_app _ _
    rw [et]
    have e4 : [48, 0] ++ 48 :: 0 :: (sg_fou i made key ++ 48 :: 0 :: sg_nmL (nms.take k)) ++ sg_nm1 nms[k] = [48, 0] ++ 48 :: 0 :: (sg_fou i made key ++ 48 :: 0 :: (sg_nmL (nms.take k) ++ sg_nm1 nms[k])) := by
      simp only [List.append_assoc, List.cons_append, List.nil_append]
    rw [← e4]
    exact O1
theorem sp_Desk_certify {life now i key : Nat} (F : cc_ok h) (hn82 : 114 ≤ cd_n h) (Ky : cc_kys h) (K : cc_clk h life now) (hi : i < 2 ^ 31) (hk : key < 2 ^ 31) (N : cc_cn h x nms) (hq : ∀ h', cd_ch (fun _ => False) h h' → cd_n h' = cd_n h + 2 → cc_ok h' → cc_oct h' (cd_n h) (cd_n h + 1) (sg_crt nms i now key (sg_sea nms i now key)) → Q (some (.ref (cd_n h))) h') : cd_W X m_Desk_certify (kc + 2) (ks + 82) 0 [some (.ref 64), some (.ref x), some (.int (nI i)), some (.int (nI key)), none, none, none, none, none] [] h Q := by
  refine cd_W.bd (fun hbd => ?_)
  obtain ⟨k1, k2, k3, k4⟩ := K
  have fl := sg_fou_len i now key
  have s1 := sg_int_len i
  have s2 := sg_int_len now
  have s3 := sg_int_len (now + 20)
  have s4 := sg_int_len key
  refine g_Desk_certify F ⟨by omega, g_Oct_init ?_⟩
  have C0 : cd_ch (fun _ => False) h (cd_si (cd_sr (cd_new (cd_new h (.inl 7)) (.inr (0, 80))) (cd_n h) 0 (some (cd_n h + 1))) (cd_n h) 1 0) := by
    have a : cd_ch (fun _ => False) h (cd_new (cd_new h (.inl 7)) (.inr (0, 80))) := cd_ch.new.tr cd_ch.new
    exact (a.old (cd_ch.sr (A := fun x => x = cd_n h) rfl) (fun x hx z => by omega)).old (cd_ch.si (A := fun x => x = cd_n h) rfl) (fun x hx z => by omega)
  have F0 := F.ch C0 (fun _ _ z => z) (by omega)
  have O0 : cc_oct (cd_si (cd_sr (cd_new (cd_new h (.inl 7)) (.inr (0, 80))) (cd_n h) 0 (some (cd_n h + 1))) (cd_n h) 1 0) (cd_n h) (cd_n h + 1) [] := by
    refine ⟨by omega, ?_, ?_, by omega, ?_, by decide, ?_, fun j v hj => by cases hj⟩
    · show cd_k (cd_new (cd_new h (.inl 7)) (.inr (0, 80))) (cd_n h) = _
      rw [cd_k_new, if_neg (by rw [cd_n_new]; omega), cd_k_new, if_pos rfl]
    · show cd_r (cd_sr (cd_new (cd_new h (.inl 7)) (.inr (0, 80))) (cd_n h) 0 (some (cd_n h + 1))) (cd_n h) 0 = _
      rw [cd_r_sr, if_pos ⟨rfl, rfl⟩]
    · show cd_k (cd_new (cd_new h (.inl 7)) (.inr (0, 80))) (cd_n h + 1) = _
      rw [cd_k_new, if_pos (by rw [cd_n_new])]
    · rw [cd_i_si, if_pos ⟨rfl, rfl⟩]; rfl
  have N0 := N.ch hbd C0 (fun _ z => z.elim)
  have Ky0 := Ky.ch C0 (by omega) (fun _ _ _ z => z)
  have n0 : cd_n (cd_si (cd_sr (cd_new (cd_new h (.inl 7)) (.inr (0, 80))) (cd_n h) 0 (some (cd_n h + 1))) (cd_n h) 1 0) = cd_n h + 2 := rfl
  have k4' : cd_i (cd_si (cd_sr (cd_new (cd_new h (.inl 7)) (.inr (0, 80))) (cd_n h) 0 (some (cd_n h + 1))) (cd_n h) 1 0) 64 12 = nI now := by
    rw [(C0.2.2 64 (by omega) (fun z => z)).1]
    exact k4
  have hkk : cd_k (cd_new (cd_new h (.inl 7)) (.inr (0, 80))) (cd_n h) = some (.inl 7) := by rw [cd_k_new, if_neg (by rw [cd_n_new]; omega), cd_k_new, if_pos rfl]
  refine ⟨hkk, by omega, ?_⟩
  show (none : Option Value) = none ∧ _
  generalize hg : cd_si (cd_sr (cd_new (cd_new h (.inl 7)) (.inr (0, 80))) (cd_n h) 0 (some (cd_n h + 1))) (cd_n h) 1 0 = h0 at C0 F0 O0 N0 Ky0 n0 k4'
  have hg2 : cd_si (cd_sr (cd_new (cd_new h (.inl 7)) (.inr (0, 80))) (cd_n h) 0 (some (cd_n (cd_new h (.inl 7))))) (cd_n h) 1 0 = h0 := hg
  rw [hg2]
  refine ⟨rfl, F0, O0.2.1, ?_⟩
  refine sp_Oct_openRow F0 O0 (by decide) (fun h1 C1 O1 => ⟨_, rfl, C1.ok F0, O1.2.1, ?_⟩)
  refine sp_Oct_openRow (C1.ok F0) O1 (by show 0 + 2 + 2 ≤ 80; decide) (fun h2 C2 O2 => ⟨_, rfl, C2.ok (C1.ok F0), O2.2.1, ?_⟩)
  have D2 := C1.tr C2
  refine sp_Oct_putInteger hi (D2.ok F0) O2 (by show 4 + 6 ≤ 80; decide) (fun h3 C3 O3 => ⟨rfl, C3.ok (D2.ok F0), O3.2.1, ?_⟩)
  have D3 := D2.tr C3
  have n64 : ¬ ((64 : Nat) = cd_n h ∨ (64 : Nat) = cd_n h + 1) := by omega
  rw [D3.2.2.2.2 64 12 n64, k4']
  refine sp_Oct_putInteger (by omega) (D3.ok F0) O3 (by simp only [List.length_append, List.length_cons, List.length_nil]; omega) (fun h4 C4 O4 => ⟨rfl, C4.ok (D3.ok F0), O4.2.1, ?_⟩)
  have D4 := D3.tr C4
  rw [D4.2.2.2.2 64 12 n64, k4', show (20 : Int32) = nI 20 by decide, nI_add]
  refine sp_Oct_putInteger (by omega) (D4.ok F0) O4 (by simp only [List.length_append, List.length_cons, List.length_nil]; omega) (fun h5 C5 O5 => ⟨rfl, C5.ok (D4.ok F0), O5.2.1, ?_⟩)
  have D5 := D4.tr C5
  refine sp_Oct_putInteger hk (D5.ok F0) O5 (by simp only [List.length_append, List.length_cons, List.length_nil]; omega) (fun h6 C6 O6 => ⟨rfl, C6.ok (D5.ok F0), O6.2.1, ?_⟩)
  have D6 := D5.tr C6
  refine sp_Oct_openRow (D6.ok F0) O6 (by simp only [List.length_append, List.length_cons, List.length_nil]; omega) (fun h7 C7 O7 => ⟨_, rfl, C7.ok (D6.ok F0), ?_⟩)
  have D7 := D6.tr C7
  have el : ([] ++ [48, 0] ++ [48, 0] ++ sg_int i ++ sg_int now ++ sg_int (now + 20) ++ sg_int key).length = 4 + (sg_fou i now key).length := by
    rw [sg_fou]
    simp only [List.length_append, List.length_cons, List.length_nil]
    omega
  rw [el]
  have eL : [] ++ [48, 0] ++ [48, 0] ++ sg_int i ++ sg_int now ++ sg_int (now + 20) ++ sg_int key ++ [48, 0] = [48, 0] ++ 48 :: 0 :: (sg_fou i now key ++ 48 :: 0 :: []) := by
    rw [sg_fou]
    simp only [List.append_assoc, List.cons_append, List.nil_append]
  rw [eL] at O7
  show cd_W X m_Desk_certify _ _ 66 [some (.ref 64), some (.ref x), none, none, some (.ref (cd_n h)), some (.int (nI 0)), some (.int (nI 2)), some (.int (nI (4 + (sg_fou i now key).length))), some (.int (nI 0))] [] h7 Q
  have hbd0 : ∀ y, (y = cd_n h ∨ y = cd_n h + 1) → cd_k h0 y = some (.inl 7) ∨ cd_k h0 y = some (.inr (0, 80)) := O0.two
  refine cd_W.bd (fun hbd7 => ?_)
  have hbd0' : cd_bd h0 := fun y q hy => by
    have := hbd7 y q (by rw [D7.2.1]; exact hy)
    rw [D7.1] at this
    exact this
  exact sp_Desk_certify_66 (by omega) (by omega) nms.length 0 h7 [] (by omega) (D7.ok F0) (by rw [D7.1, n0]; omega) (Ky0.ch D7.ch (by omega) (fun y h1 h2 z => by omega)) rfl O7 (N0.ch hbd0' D7.ch hbd0) (fun h8 C8 O8 => hq h8 (C0.old (D7.tr C8).ch (fun y hy z => by omega)) (by rw [C8.1, D7.1]; exact n0) ((D7.tr C8).ok F0) O8)
end VCE
