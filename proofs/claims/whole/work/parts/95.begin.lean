theorem cd_life (v : Int32) : ∃ life, life ≤ 9 ∧ 2 + (v &&& 7) = nI life := by
  obtain ⟨j, hj, e⟩ := pk_andE v (m := 7) 3 (by decide)
  refine ⟨2 + j, by omega, ?_⟩
  rw [e]
  exact nI_add 2 j
section WBG
variable {X : cd_E} {kc ks : Nat} {h0 h : cd_H} {Q : Option Value → cd_H → Prop} {lf : Int32} {life : Nat}
theorem ci_lst (P : ci_P h0 h 114 ci_KZ ci_RZ ci_IZ lf (-1)) (k0 : cd_k h 0 = some (.inr (5, 0))) {a : Nat} (ha : a = 78 ∨ a = 79 ∨ a = 80 ∨ a = 81) : cc_lst h a [] 0 0 := by
  rcases ha with rfl | rfl | rfl | rfl
  · exact ⟨by decide, P.kd (by decide), (P.it (by decide)).trans rfl, P.rf (by decide), k0, Nat.le_refl _, Or.inl ⟨rfl, rfl⟩, fun j hj => absurd hj (Nat.not_lt_zero j)⟩
  · exact ⟨by decide, P.kd (by decide), (P.it (by decide)).trans rfl, P.rf (by decide), k0, Nat.le_refl _, Or.inl ⟨rfl, rfl⟩, fun j hj => absurd hj (Nat.not_lt_zero j)⟩
  · exact ⟨by decide, P.kd (by decide), (P.it (by decide)).trans rfl, P.rf (by decide), k0, Nat.le_refl _, Or.inl ⟨rfl, rfl⟩, fun j hj => absurd hj (Nat.not_lt_zero j)⟩
  · exact ⟨by decide, P.kd (by decide), (P.it (by decide)).trans rfl, P.rf (by decide), k0, Nat.le_refl _, Or.inl ⟨rfl, rfl⟩, fun j hj => absurd hj (Nat.not_lt_zero j)⟩
theorem ci_ccok (P : ci_P h0 h 114 ci_KZ ci_RZ ci_IZ lf (-1)) : cc_ok h := ⟨fun q hq => P.kd ((by decide : ∀ q ∈ cc_KL, ci_mem ci_KZ q.1 q.2 = true) q hq), fun q hq => P.rf ((by decide : ∀ q ∈ cc_RL, (q.1, q.2.1, q.2.2) ∈ ci_RZ) q hq)⟩
theorem ci_cmok (P : ci_P h0 h 114 ci_KZ ci_RZ ci_IZ lf (-1)) : cm_ok h := ⟨P.kd (by decide), fun q hq => ⟨P.rf ((by decide : ∀ q ∈ cm_L, (82, q.1, q.2.1) ∈ ci_RZ) q hq), P.kd ((by decide : ∀ q ∈ cm_L, ci_mem ci_KZ q.2.1 (.inr (q.2.2.1, q.2.2.2)) = true) q hq)⟩⟩
theorem ci_kys (P : ci_P h0 h 114 ci_KZ ci_RZ ci_IZ lf (-1)) : cc_kys h := fun k hk => by
  have : k = 0 ∨ k = 1 ∨ k = 2 ∨ k = 3 ∨ k = 4 := by omega
  rcases this with rfl | rfl | rfl | rfl | rfl
  · exact ⟨⟨P.kd (by decide), (P.it (by decide)).trans rfl, (P.it (by decide)).trans rfl, by decide, by decide⟩, (P.it (by decide)).trans rfl⟩
  · exact ⟨⟨P.kd (by decide), (P.it (by decide)).trans rfl, (P.it (by decide)).trans rfl, by decide, by decide⟩, (P.it (by decide)).trans rfl⟩
  · exact ⟨⟨P.kd (by decide), (P.it (by decide)).trans rfl, (P.it (by decide)).trans rfl, by decide, by decide⟩, (P.it (by decide)).trans rfl⟩
  · exact ⟨⟨P.kd (by decide), (P.it (by decide)).trans rfl, (P.it (by decide)).trans rfl, by decide, by decide⟩, (P.it (by decide)).trans rfl⟩
  · exact ⟨⟨P.kd (by decide), (P.it (by decide)).trans rfl, (P.it (by decide)).trans rfl, by decide, by decide⟩, (P.it (by decide)).trans rfl⟩
theorem ci_keys (P : ci_P h0 h 114 ci_KZ ci_RZ ci_IZ lf (-1)) : cc_keys h := fun k hk => by
  have : k = 0 ∨ k = 1 ∨ k = 2 ∨ k = 3 := by omega
  rcases this with rfl | rfl | rfl | rfl
  · exact (P.it (by decide)).trans rfl
  · exact (P.it (by decide)).trans rfl
  · exact (P.it (by decide)).trans rfl
  · exact (P.it (by decide)).trans rfl
theorem ci_mkys (P : ci_P h0 h 114 ci_KZ ci_RZ ci_IZ lf (-1)) : cm_kys h := fun k hk => by
  have : k = 0 ∨ k = 1 ∨ k = 2 ∨ k = 3 ∨ k = 4 := by omega
  rcases this with rfl | rfl | rfl | rfl | rfl
  · exact ⟨by decide, (P.it (by decide)).trans rfl, (P.it (by decide)).trans rfl, (P.it (by decide)).trans rfl, by decide, by decide, by decide⟩
  · exact ⟨by decide, (P.it (by decide)).trans rfl, (P.it (by decide)).trans rfl, (P.it (by decide)).trans rfl, by decide, by decide, by decide⟩
  · exact ⟨by decide, (P.it (by decide)).trans rfl, (P.it (by decide)).trans rfl, (P.it (by decide)).trans rfl, by decide, by decide, by decide⟩
  · exact ⟨by decide, (P.it (by decide)).trans rfl, (P.it (by decide)).trans rfl, (P.it (by decide)).trans rfl, by decide, by decide, by decide⟩
  · exact ⟨by decide, (P.it (by decide)).trans rfl, (P.it (by decide)).trans rfl, (P.it (by decide)).trans rfl, by decide, by decide, by decide⟩
theorem ci_D (P : ci_P h0 h 114 ci_KZ ci_RZ ci_IZ lf (-1)) (n0 : cd_n h0 = 64) (Ft : cc_fat h0) (Cs : cc_cs h0) (k0 : cd_k h 0 = some (.inr (5, 0))) (hl : life ≤ 9) (elf : lf = nI life) : cl_D h (fun _ => 0) 0 life 0 (fun _ => none) [] [] [] [] 0 none 0 0 (fun _ => false) := by
  have C := P.2.2.2.2.2
  have fe : ∀ x j, x < 64 → cd_i h x j = cd_i h0 x j := fun x j hx => (C.2.2 x (by omega) (by omega)).1 j
  have Ft' : cc_fat h := ⟨⟨(fe 1 0 (by decide)).trans Ft.1.1, (fe 1 1 (by decide)).trans Ft.1.2⟩, ⟨(fe 2 0 (by decide)).trans Ft.2.1.1, (fe 2 1 (by decide)).trans Ft.2.1.2⟩, ⟨(fe 3 0 (by decide)).trans Ft.2.2.1.1, (fe 3 1 (by decide)).trans Ft.2.2.1.2⟩, (fe 4 0 (by decide)).trans Ft.2.2.2.1, (fe 4 1 (by decide)).trans Ft.2.2.2.2⟩
  have Cs' : cc_cs h := Cs.ch C (by omega) (fun x hx z => by omega)
  have L : ∀ a, a = 78 ∨ a = 79 ∨ a = 80 ∨ a = 81 → cc_lst h a [] 0 0 := fun a ha => ci_lst P k0 ha
  have K : cc_clk h life 0 := ⟨hl, by decide, ((P.it (by decide)).trans rfl).trans elf, (P.it (by decide)).trans rfl⟩
  have W : cc_net h (fun _ => none) := fun j hj => ⟨P.2.2.2.2.1 (by decide) j hj, fun v hv => by cases hv⟩
  have Z : cc_txt h (fun _ => 0) 0 := ⟨by decide, (P.it (by decide)).trans rfl, fun j hj => absurd hj (Nat.not_lt_zero j), fun j hj => absurd hj (Nat.not_lt_zero j)⟩
  have nil : ∀ {α : Type} {i : Nat} {a : α}, ([] : List α)[i]? = some a → False := fun z => by cases z
  have lr : ∀ a b, cc_isl h [] a → cd_r h a 0 = some b → b = 0 := fun a b ha hb => by
    rcases ha with ha | ha | ha | ha | ⟨x, hx, _⟩
    · have := (L a (by omega)).2.2.2.1.symm.trans hb
      cases this
      rfl
    · have := (L a (by omega)).2.2.2.1.symm.trans hb
      cases this
      rfl
    · have := (L a (by omega)).2.2.2.1.symm.trans hb
      cases this
      rfl
    · have := (L a (by omega)).2.2.2.1.symm.trans hb
      cases this
      rfl
    · cases hx
  refine ⟨⟨[], [], [], [], 0, 0, 0, 0, 0, 0, 0, 0, ⟨ci_ccok P, by rw [P.1]; exact Nat.le_refl _, Ft', Cs', ci_kys P, ci_keys P, K, W, Z⟩, ⟨by decide, L 78 (by decide), rfl, List.nodup_nil, fun i x a hx => (nil hx).elim⟩, ⟨by decide, L 80 (by decide), rfl, List.nodup_nil, fun i x a hx => (nil hx).elim⟩, ⟨by decide, L 79 (by decide), rfl, List.nodup_nil, fun i x a hx => (nil hx).elim⟩, ⟨by decide, L 81 (by decide), rfl, List.nodup_nil, fun i x a hx => (nil hx).elim⟩, fun a a' b h1 h2 h3 h4 h5 => ?_, fun a b h1 h2 h3 => ?_⟩, ⟨by decide, (P.it (by decide)).trans rfl, (P.it (by decide)).trans rfl, fun c hc => by cases hc⟩, ⟨by decide, by decide, (P.it (by decide)).trans rfl, (P.it (by decide)).trans rfl, fun k hk => absurd hk (Nat.not_lt_zero k)⟩⟩
  · have := lr a b h1 h3
    omega
  · have := lr a b h1 h2
    omega
theorem ci_M (P : ci_P h0 h 114 ci_KZ ci_RZ ci_IZ lf (-1)) (hl : life ≤ 9) (elf : lf = nI life) : cl_M h (fun _ => 0) 0 life 0 (fun _ => none) [] [] [] [] 0 none 0 0 (fun _ => false) := by
  have nil : ∀ {α : Type} {i : Nat} {a : α}, ([] : List α)[i]? = some a → False := fun z => by cases z
  exact ⟨⟨ci_cmok P, ⟨by decide, (P.it (by decide)).trans rfl, fun j hj => absurd hj (Nat.not_lt_zero j), fun j hj => absurd hj (Nat.not_lt_zero j)⟩, ⟨hl, by decide, ((P.it (by decide)).trans rfl).trans elf, (P.it (by decide)).trans rfl⟩, ci_mkys P, fun j hj => ⟨fun _ => P.iz (by decide) (by decide) j, fun v hv => by cases hv⟩, ⟨by decide, (P.it (by decide)).trans rfl, fun i a ha => (nil ha).elim, fun i _ hi => P.iz (by decide) (by decide) i⟩, ⟨by decide, (P.it (by decide)).trans rfl, fun i a ha => (nil ha).elim, fun i _ hi => ⟨P.iz (by decide) (by decide) i, P.iz (by decide) (by decide) i⟩⟩, ⟨by decide, (P.it (by decide)).trans rfl, fun i a ha => (nil ha).elim⟩, ⟨by decide, (P.it (by decide)).trans rfl, fun i a ha => (nil ha).elim⟩⟩, ⟨by decide, (P.it (by decide)).trans rfl, (P.it (by decide)).trans rfl, fun c hc => by cases hc⟩, ⟨by decide, by decide, (P.it (by decide)).trans rfl, (P.it (by decide)).trans rfl, fun k hk => P.iz (by decide) (by decide) k, fun _ _ => rfl⟩⟩
theorem ci_S (P : ci_P h0 h 114 ci_KZ ci_RZ ci_IZ lf (-1)) (n0 : cd_n h0 = 64) (Ft : cc_fat h0) (Cs : cc_cs h0) (k0 : cd_k h 0 = some (.inr (5, 0))) (hl : life ≤ 9) (elf : lf = nI life) : cl_S h life 0 :=
  ⟨_, _, _, _, _, _, _, _, _, _, _, _, _, ci_D P n0 Ft Cs k0 hl elf, ci_M P hl elf, ((P.it (by decide)).trans rfl).trans ((P.it (by decide)).trans rfl : cd_i h 82 13 = 0).symm, ⟨List.nodup_nil, (fun u hu => by cases hu), rfl⟩, Nat.le_refl _, Nat.le_refl _, Nat.le_refl _⟩
theorem sp_Law_cell (hL : cd_sL X ≤ 2561) {v : Int32} (ev : v = if 0 < cd_sL X then cd_sx X 0 else 0) (hq : Q (some (.int v)) h) : cd_W X m_Law_cell kc ks 0 [some (.ref 35), some (.int 0)] [] h Q := by
  refine g_Law_cell ?_
  rw [show (0 : Int32) = nI 0 by decide, nI_leI (by omega) (by decide)]
  refine ⟨fun t => ?_, fun t => ⟨vp_in_nI (by omega) (by omega), ?_⟩⟩
  · rw [if_neg (by omega)] at ev
    rw [ev] at hq
    exact hq
  · rw [if_pos (by omega)] at ev
    rw [ev] at hq
    exact hq
theorem cd_law_all (hL : cd_sL X ≤ 2561) (hQ : ∀ h', Q (some (.int 1)) h') (n0 : cd_n h0 = 64) (Ft : cc_fat h0) (Cs : cc_cs h0) : cd_W X m_Law_law (kc + 81 * 512 + 50) (ks + 2240 * 512 + 2223) 0 [some (.ref 35), none, none, none] [] h0 Q := by
  refine cd_W.k0 (fun hk0 _ _ => ?_)
  generalize ev : (if 0 < cd_sL X then cd_sx X 0 else 0) = v
  obtain ⟨life, hl, elf⟩ := cd_life v
  have B : ci_P h0 h0 64 [] [] [] (2 + (v &&& 7)) 0 := ⟨n0, (fun q hq => by cases hq), (fun q hq => by cases hq), (fun x j h1 h2 => by omega), (fun h7 => by omega), cd_ch.rf _ _⟩
  refine g_Law_law (sp_Law_cell hL ev.symm ⟨v, rfl, ?_⟩)
  rw [n0]
  refine in_Desk (kc := 0) (ks := 0) (B.new (by decide) (by decide)) (fun h1 P1 => ⟨rfl, sp_Law_cell hL ev.symm ⟨v, rfl, ?_⟩⟩)
  rw [P1.1]
  refine in_Mod (kc := 0) (ks := 0) (P1.new (by decide) (by decide)) (fun h2 P2 => ⟨rfl, ?_⟩)
  have k0 : cd_k h2 0 = some (.inr (5, 0)) := by
    rw [P2.2.2.2.2.2.2.1 0 (by omega)]
    exact hk0 0 (by decide)
  exact cd_law_loop hL hQ 512 0 h2 rfl (ci_S P2 n0 Ft Cs k0 hl elf)
end WBG
