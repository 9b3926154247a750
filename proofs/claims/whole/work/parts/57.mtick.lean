def cm_TK (x j : Nat) : Prop := cm_K x j ∨ x = 88 ∨ x = 101 ∨ x = 102
section VMT
variable {X : cd_E} {kc ks : Nat} {h : cd_H} {Q : Option Value → cd_H → Prop} {life now : Nat} {AC : List sg_A} {AU : List sg_U} {NW : Nat → Option Nat}
theorem cm_clk.of {h h' : cd_H} (K : cm_clk h life now) (e : ∀ j, j = 0 ∨ j = 9 → cd_i h' 82 j = cd_i h 82 j) : cm_clk h' life now := ⟨K.1, K.2.1, by rw [e 0 (Or.inl rfl)]; exact K.2.2.1, by rw [e 9 (Or.inr rfl)]; exact K.2.2.2⟩
theorem cm_acc.of {h h' : cd_H} (A : cm_acc h AC) (e : ∀ x j, (x = 82 ∧ j = 14) ∨ x = 90 ∨ x = 91 → cd_i h' x j = cd_i h x j) : cm_acc h' AC := by
  obtain ⟨a1, a2, a3, a4⟩ := A
  refine ⟨a1, by rw [e 82 14 (by omega)]; exact a2, fun i a ha => ?_, fun i h1 h2 => by rw [e 91 i (by omega)]; exact a4 i h1 h2⟩
  rw [e 90 i (by omega), e 91 i (by omega)]
  exact a3 i a ha
theorem cm_net.of {h h' : cd_H} (W : cm_net h NW) (e : ∀ x j, x = 109 ∨ x = 110 → cd_i h' x j = cd_i h x j) : cm_net h' NW := fun j hj => by
  rw [e 109 j (Or.inl rfl), e 110 j (Or.inr rfl)]
  exact W j hj
theorem cm_sto.of {h h' : cd_H} {us : Nat} {ct : Option Nat} (S : cm_sto h us ct) (e : ∀ j, j = 39 ∨ j = 40 → cd_i h' 82 j = cd_i h 82 j) : cm_sto h' us ct := ⟨S.1, by rw [e 39 (Or.inl rfl)]; exact S.2.1, by rw [e 40 (Or.inr rfl)]; exact S.2.2.1, S.2.2.2⟩
theorem cm_non.of {h h' : cd_H} {cr gv : Nat} {sp : Nat → Bool} (N : cm_non h cr gv sp) (e : ∀ x j, (x = 82 ∧ (j = 10 ∨ j = 11)) ∨ x = 89 → cd_i h' x j = cd_i h x j) : cm_non h' cr gv sp := by
  obtain ⟨n1, n2, n3, n4, n5, n6⟩ := N
  exact ⟨n1, n2, by rw [e 82 10 (by omega)]; exact n3, by rw [e 82 11 (by omega)]; exact n4, fun k hk => by rw [e 89 k (by omega)]; exact n5 k hk, n6⟩
theorem sp_Mod_tick_19 {cr gv : Nat} {sp : Nat → Bool} (hcr : cr < 1000) (hNW : ∀ j v, j < 48 → NW j = some v → v < 2147483647) : ∀ (r j : Nat) (h : cd_H) (AU : List sg_U) (us : Nat) (ct : Option Nat) (pr : Nat), r + j = AU.length → cm_ok h → cm_clk h life now → cm_kys h → cm_net h NW → cm_acc h AC → cm_aut h now AC AU → cm_sto h us ct → cm_non h cr gv sp → (∀ h', cm_ch cm_TK h h' → cm_aut h' now AC (sg_tk AC life now NW r j AU us ct pr).1 → cm_sto h' (sg_tk AC life now NW r j AU us ct pr).2.1 (sg_tk AC life now NW r j AU us ct pr).2.2.1 → cm_non h' (sg_ncr (sg_tk AC life now NW r j AU us ct pr).2.2.2.1 cr) (sg_ngv (sg_tk AC life now NW r j AU us ct pr).2.2.2.1 gv) (sg_nsp (sg_tk AC life now NW r j AU us ct pr).2.2.2.1 sp) → Q (some (.int (nI (sg_tk AC life now NW r j AU us ct pr).2.2.2.2))) h') → cd_W X m_Mod_tick kc ks 19 [some (.ref 82), some (.int (nI pr)), some (.int (nI cr)), some (.int (nI j)), none, none] [] h Q := by
  intro r
  induction r with
  | zero =>
    intro j h AU us ct pr hj F K Ky W A U S N hq
    have u1 := U.1
    refine g_Mod_tick_19 F ?_
    rw [U.2.1, nI_leI (by omega) (by omega)]
    exact ⟨fun _ => hq h (cm_ch.rf _ _) U S N, fun t => by omega⟩
  | succ r ih =>
    intro j h AU us ct pr hj F K Ky W A U S N hq
    have u1 := U.1
    have hjl : j < AU.length := by omega
    have hu : AU[j]? = some AU[j] := List.getElem?_eq_getElem hjl
    generalize huu : AU[j] = u at hu
    obtain ⟨b1, b2, b3, b4, b5, b6, b7, b8, b9, b10, b11⟩ := U.2.2.1 j u hu
    have stl := sg_st_le AC life now u
    have hpl := sg_pl_le hu
    refine g_Mod_tick_19 F ?_
    rw [U.2.1, nI_leI (by omega) (by omega)]
    refine ⟨fun t => by omega, fun _ => ⟨fun z => absurd N.2.2.1 z, fun _ => sp_Mod_state F K A U ⟨_, rfl, F, ?_⟩⟩⟩
    have es : sg_sta AC life now AU (nI j) = nI (sg_st AC life now u) := by rw [sg_sta, sg_ix_nI (by omega), hu]
    have h1 : nI (sg_st AC life now u) = 1 ↔ sg_st AC life now u = 1 := by
      rw [show (1 : Int32) = nI 1 by decide, nI_eq (by omega) (by decide)]
    rw [es, h1, nI_1, nI_clamp (by omega)]
    refine ⟨fun hs => ?_, fun hs => ⟨vp_in_nI (by omega) (by decide), ?_⟩⟩
    · have eR : sg_tk AC life now NW (r + 1) j AU us ct pr = sg_tk AC life now NW r (j + 1) AU us ct pr := by
        rw [sg_tk, hu]
        simp only
        rw [if_neg hs]
      rw [eR] at hq
      exact ih (j + 1) h AU us ct pr (by omega) F K Ky W A U S N hq
    · obtain ⟨t1, t2, t3⟩ := sg_st1 hs
      rw [b7, show (1 : Int32) = nI 1 by decide, pk_sub (by omega)]
      refine sp_Mod_spot F U (by omega) hu ⟨_, rfl, F, vp_in_nI (by omega) (by decide), ?_⟩
      have a1 := A.1
      rw [nI_clamp (by omega), b2, nI_clamp (by omega)]
      generalize hg : sg_gd AC NW AU j u = g
      have hcr' : (AU.map sg_cr)[j]? = some (sg_cr u) := by rw [List.getElem?_map, hu]; rfl
      have out : ∀ (h' : cd_H) (AU' : List sg_U) (pr' : Nat), cm_ok h' → cm_aut h' now AC AU' → cm_non h' (cr + 1) 0 (fun _ => false) → Q (some (.int (nI pr'))) h' → cd_W X m_Mod_tick kc ks 19 [some (.ref 82), some (.int (nI pr')), some (.int (nI cr)), some (.int (nI (j + 1))), none, none] [] h' Q := by
        intro h' AU' pr' F' U' N' hq'
        refine g_Mod_tick_19 F' ⟨fun _ => hq', fun _ => ⟨fun _ => hq', fun z => ?_⟩⟩
        rw [N'.2.2.1, nI_eq (by omega) (by omega)] at z
        omega
      have tail : ∀ (hX : cd_H) (dv pv : Int32), cm_ch cm_TK h hX → (∀ x k, ¬ x = 88 → cd_i hX x k = cd_i h x k) → dv = nI (if g then 1 else 2) → pv = nI (pr + if g then 1 else 0) → cd_W X m_Mod_hasRoom 0 0 0 [some (.ref 82), some (.int (nI 5))] [] (cd_si hX 103 j 0) (fun r15 h16 => ∃ x17 : Int32, r15 = some (.int x17) ∧ ((cm_ok h16) ∧ ((((x17 = 0) → (cd_W X m_Mod_tick kc ks 19 [some (.ref 82), some (.int (nI pr)), some (.int (nI cr)), some (.int (nI (j + 1))), none, none] [] h16 Q)) ∧ ((¬ x17 = 0) → (cd_W X m_Mod_keep 0 0 0 [some (.ref 82), some (.int (nI 5)), none] [] h16 (fun r20 h21 => ∃ x22 : Int32, r20 = some (.int x22) ∧ ((cm_ok h21) ∧ ((((x22 = 0) → (cd_W X m_Mod_tick kc ks 19 [some (.ref 82), some (.int (nI pr)), some (.int (nI cr)), some (.int (nI (j + 1))), none, none] [] h21 Q)) ∧ ((¬ x22 = 0) → (cd_W X m_Mod_tick kc ks 19 [some (.ref 82), some (.int pv), some (.int (nI cr)), some (.int (nI (j + 1))), none, none] [] (cd_si (cd_si h21 101 j dv) 102 j (cd_i (cd_si h21 101 j dv) 82 9)) Q)))))))))))) := by
        intro hX dv pv CX eX edv epv
        have ei : ∀ x k, ¬ x = 88 → ¬ (x = 103 ∧ k = j) → cd_i (cd_si hX 103 j 0) x k = cd_i h x k := fun x k hx hk => by rw [cd_i_si, if_neg hk]; exact eX x k hx
        have C1 : cm_ch cm_TK h (cd_si hX 103 j 0) := CX.tr (cm_ch.si (Or.inl (Or.inr (Or.inr rfl))))
        have U1 : cm_aut (cd_si hX 103 j 0) now AC (AU.set j (sg_cr u)) := by
          refine U.upd hu (fun x k hx hk => ei x k (by omega) (by omega)) ?_ (fun z => absurd z t2) ?_ rfl rfl rfl ⟨b8, Nat.zero_le _, b11⟩
          · rw [ei 101 j (by decide) (by omega)]; exact b5
          · rw [cd_i_si, if_pos ⟨rfl, rfl⟩]; rfl
        have S1 : cm_sto (cd_si hX 103 j 0) us ct := S.of (fun k hk => ei 82 k (by decide) (by omega))
        have N1 : cm_non (cd_si hX 103 j 0) cr gv sp := N.of (fun x k hx => ei x k (by omega) (by omega))
        have stat : ∀ h', cm_ch cm_TK h h' → cm_clk h' life now ∧ cm_kys h' ∧ cm_net h' NW ∧ cm_acc h' AC := fun h' C => by
          have e : ∀ x k, ¬ cm_TK x k → cd_i h' x k = cd_i h x k := C.2.2.2
          have no : ∀ x k, ¬ x = 88 → ¬ x = 89 → ¬ x = 101 → ¬ x = 102 → ¬ x = 103 → (x = 82 → ¬ k = 10 ∧ ¬ k = 11 ∧ ¬ k = 39 ∧ ¬ k = 40) → ¬ cm_TK x k := fun x k a b c d f g' z => by
            rcases z with (⟨z1, z2⟩ | z | z) | z | z | z
            · have := g' z1; omega
            · exact b z
            · exact f z
            · exact a z
            · exact c z
            · exact d z
          exact ⟨K.of (fun k hk => e 82 k (no 82 k (by decide) (by decide) (by decide) (by decide) (by decide) (fun _ => by omega))), Ky.of (fun x k hx => e x k (no x k (by omega) (by omega) (by omega) (by omega) (by omega) (fun z => by omega))), W.of (fun x k hx => e x k (no x k (by omega) (by omega) (by omega) (by omega) (by omega) (fun z => by omega))), A.of (fun x k hx => e x k (no x k (by omega) (by omega) (by omega) (by omega) (by omega) (fun z => by omega)))⟩
        have lset : (AU.set j (sg_cr u))[j]? = some (sg_cr u) := by rw [List.getElem?_set, if_pos rfl, if_pos hjl]
        have dec : ∀ (h' : cd_H) (AU' : List sg_U), cm_ch cm_TK h h' → cm_aut h' now AC AU' → AU'[j]? = some (sg_cr u) → cm_aut (cd_si (cd_si h' 101 j dv) 102 j (cd_i (cd_si h' 101 j dv) 82 9)) now AC (AU'.set j (sg_dcd g now u)) := by
          intro h' AU' C' U' hv
          obtain ⟨K', -⟩ := stat h' C'
          obtain ⟨-, -, -, -, -, -, q7, -⟩ := U'.2.2.1 j _ hv
          refine U'.upd hv (fun x k hx hk => ?_) ?_ (fun _ => ?_) ?_ rfl rfl rfl ⟨?_, Nat.zero_le _, Nat.le_refl _⟩
          · rw [cd_i_si, if_neg (by omega), cd_i_si, if_neg (by omega)]
          · rw [cd_i_si, if_neg (by omega), cd_i_si, if_pos ⟨rfl, rfl⟩]; exact edv
          · rw [cd_i_si, if_pos ⟨rfl, rfl⟩, cd_i_si, if_neg (by omega)]; exact K'.2.2.2
          · rw [cd_i_si, if_neg (by omega), cd_i_si, if_neg (by omega)]; exact q7
          · show (if g then 1 else 2) ≤ 2
            cases g <;> decide
        have Cd : ∀ (h' : cd_H) (p q : Int32), cm_ch cm_TK h h' → cm_ch cm_TK h (cd_si (cd_si h' 101 j p) 102 j q) := fun h' p q C => (C.tr (cm_ch.si (Or.inr (Or.inr (Or.inl rfl))))).tr (cm_ch.si (Or.inr (Or.inr (Or.inr rfl))))
        have sD : ∀ (h' : cd_H) (p q : Int32) (a : Nat) (c : Option Nat), cm_sto h' a c → cm_sto (cd_si (cd_si h' 101 j p) 102 j q) a c := fun h' p q a c S' => S'.of (fun k hk => by rw [cd_i_si, if_neg (by omega), cd_i_si, if_neg (by omega)])
        have nD : ∀ (h' : cd_H) (p q : Int32) (a c : Nat) (s : Nat → Bool), cm_non h' a c s → cm_non (cd_si (cd_si h' 101 j p) 102 j q) a c s := fun h' p q a c s N' => N'.of (fun x k hx => by rw [cd_i_si, if_neg (by omega), cd_i_si, if_neg (by omega)])
        have sK : ∀ h', cm_ch cm_K (cd_si hX 103 j 0) h' → cm_ch cm_TK h h' := fun h' C => C1.tr (C.sub (fun x k z => Or.inl z))
        have emap : (AU.set j (sg_cr u)).map sg_cr = (AU.map sg_cr).set j (sg_cr u) := by rw [List.map_set]; rfl
        have F1 := C1.ok F
        refine sp_Mod_hasRoom F1 S1 (by decide) (fun hr => ⟨_, rfl, F1, fun z => absurd z (by decide), fun _ => ?_⟩) (fun hr => ⟨_, rfl, F1, fun _ => ?_, fun z => absurd rfl z⟩)
        · refine sp_Mod_keep F1 N1 hcr U1 S1 hr (fun hc h' C' S' N' U' => ⟨_, rfl, C'.ok F1, fun z => absurd z (by decide), fun _ => ?_⟩) (fun c hc hle h' C' S' N' U' => ⟨_, rfl, C'.ok F1, fun z => absurd z (by decide), fun _ => ?_⟩) (fun c hc hgt h' C' S' N' U' => ⟨_, rfl, C'.ok F1, fun _ => ?_, fun z => absurd rfl z⟩)
          · have eR : sg_tk AC life now NW (r + 1) j AU us ct pr = sg_tk AC life now NW r (j + 1) (AU.set j (sg_dcd g now u)) (us + 5) none (pr + if g then 1 else 0) := by
              rw [sg_tk, hu]
              simp only
              rw [if_pos hs, if_neg (by omega), hc, hg]
            rw [eR] at hq
            have U2 := dec h' _ (sK h' C') U' lset
            rw [List.set_set] at U2
            have CD := Cd h' dv (cd_i (cd_si h' 101 j dv) 82 9) (sK h' C')
            obtain ⟨k1, k2, k3, k4⟩ := stat _ CD
            rw [epv]
            exact ih (j + 1) _ _ (us + 5) none _ (by rw [List.length_set]; omega) (CD.ok F) k1 k2 k3 k4 U2 (sD _ _ _ _ _ S') (nD _ _ _ _ _ _ N') (fun h2 C2 => hq h2 (CD.tr C2))
          · have eR : sg_tk AC life now NW (r + 1) j AU us ct pr = ((AU.map sg_cr).set j (sg_dcd g now u), us + 5, none, true, pr + if g then 1 else 0) := by
              rw [sg_tk, hu]
              simp only
              rw [if_pos hs, if_neg (by omega), hc, hg]
              simp only
              rw [if_pos hle]
            rw [eR] at hq
            rw [emap] at U'
            have U2 := dec h' _ (sK h' C') U' (by rw [List.getElem?_set, if_pos rfl, if_pos (by rw [List.length_map]; exact hjl)])
            rw [List.set_set] at U2
            have CD := Cd h' dv (cd_i (cd_si h' 101 j dv) 82 9) (sK h' C')
            rw [epv]
            exact out _ _ _ (CD.ok F) U2 (nD _ _ _ _ _ _ N') (hq _ CD U2 (sD _ _ _ _ _ S') (nD _ _ _ _ _ _ N'))
          · have eR : sg_tk AC life now NW (r + 1) j AU us ct pr = ((AU.map sg_cr).set j (sg_cr u), us, none, true, pr) := by
              rw [sg_tk, hu]
              simp only
              rw [if_pos hs, if_neg (by omega), hc]
              simp only
              rw [if_neg (by omega)]
            rw [eR] at hq
            rw [emap] at U'
            exact out _ _ _ (C'.ok F1) U' N' (hq _ (sK h' C') U' S' N')
        · have eR : sg_tk AC life now NW (r + 1) j AU us ct pr = sg_tk AC life now NW r (j + 1) (AU.set j (sg_cr u)) us ct pr := by
            rw [sg_tk, hu]
            simp only
            rw [if_pos hs, if_pos hr]
          rw [eR] at hq
          obtain ⟨k1, k2, k3, k4⟩ := stat _ C1
          exact ih (j + 1) _ _ us ct pr (by rw [List.length_set]; omega) F1 k1 k2 k3 k4 U1 S1 N1 (fun h2 C2 => hq h2 (C1.tr C2))
      obtain ⟨w1, w2⟩ := W (24 * (sgu_tri u - 1) + sg_pl AU u) (by omega)
      have e2 : AC[sgu_own u]? = some (AC[sgu_own u]'b1) := List.getElem?_eq_getElem b1
      obtain ⟨f1, f2, f3⟩ := A.2.2.1 _ _ e2
      have ek : sg_ky AC (sgu_own u) = (AC[sgu_own u]'b1).1 := by rw [sg_ky, e2]
      have hp := sg_put_lt j u (AC[sgu_own u]'b1).1
      unfold sg_gd at hg
      rw [ek] at hg
      rw [f1]
      refine ⟨fun t0 => ?_, fun t0 => ⟨vp_in_nI (by omega) (by decide), sp_Mod_proof F U K.2.1 hu (Ky _ (by omega)) (fun h2 C2 => ⟨_, rfl, C2.ok F, fun t => ?_, fun t => ?_⟩)⟩⟩
      · have eg : g = false := by
          cases hN : NW (24 * (sgu_tri u - 1) + sg_pl AU u) with
          | none => rw [hN] at hg; exact hg.symm
          | some v => rw [(w2 v hN).1] at t0; exact absurd t0 (by decide)
        exact tail h 2 (nI pr) (cm_ch.rf _ _) (fun _ _ _ => rfl) (by rw [eg]; decide) (by rw [eg]; rfl)
      · have eg : g = false := by
          cases hN : NW (24 * (sgu_tri u - 1) + sg_pl AU u) with
          | none => rw [hN] at hg; exact hg.symm
          | some v =>
            rw [(w2 v hN).2] at t
            rw [hN, decide_eq_false (fun z => t (by cases z; rfl))] at hg
            exact hg.symm
        exact tail h2 2 (nI pr) (C2.ch.sub (fun x k z => Or.inr (Or.inl z))) (fun x k hx => C2.2.2.2.1 x k hx) (by rw [eg]; decide) (by rw [eg]; rfl)
      · have eg : g = true := by
          cases hN : NW (24 * (sgu_tri u - 1) + sg_pl AU u) with
          | none => exact absurd (w1 hN) t0
          | some v =>
            have hv := hNW _ v (by omega) hN
            have t : cd_i h 110 (24 * (sgu_tri u - 1) + sg_pl AU u) = nI (sg_put j u (AC[sgu_own u]'b1).1) := t
            rw [(w2 v hN).2, nI_eq (by omega) (by omega)] at t
            rw [hN, t, decide_eq_true rfl] at hg
            exact hg.symm
        rw [nI_add]
        exact tail h2 (nI 1) (nI (pr + 1)) (C2.ch.sub (fun x k z => Or.inr (Or.inl z))) (fun x k hx => C2.2.2.2.1 x k hx) (by rw [eg]; decide) (by rw [eg]; rfl)
theorem sp_Mod_tick {cr gv : Nat} {sp : Nat → Bool} (hcr : cr < 1000) (hNW : ∀ j v, j < 48 → NW j = some v → v < 2147483647) {us : Nat} {ct : Option Nat} (F : cm_ok h) (K : cm_clk h life now) (hnow : now < 1000) (Ky : cm_kys h) (W : cm_net h NW) (A : cm_acc h AC) (U : cm_aut h now AC AU) (S : cm_sto h us ct) (N : cm_non h cr gv sp) (hq : ∀ h', cm_ch (fun x j => cm_TK x j ∨ (x = 82 ∧ j = 9)) h h' → cm_clk h' life (now + 1) → cm_aut h' (now + 1) AC (sg_tk AC life (now + 1) NW AU.length 0 AU us ct 0).1 → cm_sto h' (sg_tk AC life (now + 1) NW AU.length 0 AU us ct 0).2.1 (sg_tk AC life (now + 1) NW AU.length 0 AU us ct 0).2.2.1 → cm_non h' (sg_ncr (sg_tk AC life (now + 1) NW AU.length 0 AU us ct 0).2.2.2.1 cr) (sg_ngv (sg_tk AC life (now + 1) NW AU.length 0 AU us ct 0).2.2.2.1 gv) (sg_nsp (sg_tk AC life (now + 1) NW AU.length 0 AU us ct 0).2.2.2.1 sp) → Q (some (.int (nI (sg_tk AC life (now + 1) NW AU.length 0 AU us ct 0).2.2.2.2))) h') : cd_W X m_Mod_tick kc ks 0 [some (.ref 82), none, none, none, none, none] [] h Q := by
  obtain ⟨k1, k2, k3, k4⟩ := K
  refine g_Mod_tick F ?_
  have ei : ∀ (v : Int32) x k, ¬ (x = 82 ∧ k = 9) → cd_i (cd_si h 82 9 v) x k = cd_i h x k := fun v x k hx => by rw [cd_i_si, if_neg hx]
  rw [ei _ 82 10 (by omega), k4, nI_1, N.2.2.1]
  have C0 : cm_ch (fun x j => cm_TK x j ∨ (x = 82 ∧ j = 9)) h (cd_si h 82 9 (nI (now + 1))) := cm_ch.si (Or.inr ⟨rfl, rfl⟩)
  have K0 : cm_clk (cd_si h 82 9 (nI (now + 1))) life (now + 1) := ⟨k1, by omega, by rw [ei _ 82 0 (by omega)]; exact k3, by rw [cd_i_si, if_pos ⟨rfl, rfl⟩]⟩
  have U0 : cm_aut (cd_si h 82 9 (nI (now + 1))) (now + 1) AC AU := by
    have U1 := U.of (h' := cd_si h 82 9 (nI (now + 1))) (fun x j hx => ei _ x j (by omega))
    refine ⟨U1.1, U1.2.1, fun i u hu => ?_, U1.2.2.2⟩
    obtain ⟨b1, b2, b3, b4, b5, b6, b7, b8, b9, b10, b11⟩ := U1.2.2.1 i u hu
    exact ⟨b1, b2, b3, b4, b5, b6, b7, b8, b9, by omega, by omega⟩
  show cd_W X m_Mod_tick kc ks 19 [some (.ref 82), some (.int (nI 0)), some (.int (nI cr)), some (.int (nI 0)), none, none] [] _ Q
  refine sp_Mod_tick_19 hcr hNW AU.length 0 _ AU us ct 0 (by omega) (C0.ok F) K0 (Ky.of (fun x j hx => ei _ x j (by omega))) (W.of (fun x j hx => ei _ x j (by omega))) (A.of (fun x j hx => ei _ x j (by omega))) U0 (S.of (fun j hj => ei _ 82 j (by omega))) (N.of (fun x j hx => ei _ x j (by omega))) (fun h' C' U' S' N' => hq h' (C0.tr (C'.sub (fun x j z => Or.inl z))) (K0.of (fun j hj => C'.2.2.2 82 j ?_)) U' S' N')
  rintro ((⟨z1, z2⟩ | z | z) | z | z | z) <;> omega
end VMT
