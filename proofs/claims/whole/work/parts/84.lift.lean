section WLD
variable {X : cd_E} {kc ks : Nat} {h h' : cd_H} {Q : Option Value → cd_H → Prop} {A : Nat → Prop} {T T' : Nat → Nat} {n n' life now cr gv us w : Nat} {sp : Nat → Bool} {ct : Option Nat} {NW NW' : Nat → Option Nat} {AC : List sg_A} {AU AU' : List sg_U} {OR OR' : List sg_O} {CE : List sg_C} {accs auts ords cers : List Nat} {b1 c1 b2 c2 b3 c3 b4 c4 : Nat}
theorem cc_P.low (P : cc_P h T n life now NW AC AU OR CE) (hbd : cd_bd h) (C : cd_ch A h h') (hA : ∀ x, A x → 71 ≤ x ∧ x < 78) (F' : cc_ok h') (W' : cc_net h NW → cc_net h' NW') (Z' : cc_txt h T n → cc_txt h' T' n') : cc_P h' T' n' life now NW' AC AU OR CE := by
  obtain ⟨accs, auts, ords, cers, b1, c1, b2, c2, b3, c3, b4, c4, R⟩ := P
  obtain ⟨F, hn, Ft, Cs, Ky, Kk, K, W, Z⟩ := R.1
  have no : ∀ x, ¬ (71 ≤ x ∧ x < 78) → ¬ A x := fun x hx z => hx (hA x z)
  exact ⟨accs, auts, ords, cers, b1, c1, b2, c2, b3, c3, b4, c4, R.low hbd C (fun x hx => by have := hA x hx; omega) ⟨F', Nat.le_trans hn C.1, Ft.ch C (by omega) (fun x hx => no x (by omega)), Cs.ch C (by omega) (fun x hx => no x (by omega)), Ky.ch C (by omega) (fun x h1 h2 => no x (by omega)), Kk.ch C (by omega) (fun x h1 h2 => no x (by omega)), K.ch C (by omega) (no _ (by decide)), W' W, Z' Z⟩⟩
theorem cd_ch.dq (C : cd_ch A h h') (hA : ∀ x, A x → cc_Dq x) : cd_ch cc_Dq h h' := (cd_ch.rf cc_Dq h).old C (fun x _ hx => hA x hx)
theorem dl_write (D : cl_D h T n life now NW AC AU OR CE us ct cr gv sp) {c : Nat} (hc : c < 65536) (h1 : (n < 96 ∧ 32 ≤ c ∧ c ≤ 126) → ∀ h', cd_ch cc_Dq h h' → cl_D h' (fun j => if j = n then c else T j) (n + 1) life now NW AC AU OR CE us ct cr gv sp → cd_i h' 64 13 = cd_i h 64 13 → Q (some (.int 1)) h') (h0 : ¬ (n < 96 ∧ 32 ≤ c ∧ c ≤ 126) → Q (some (.int 0)) h) : cd_W X m_Desk_write kc ks 0 [some (.ref 64), some (.int (nI c))] [] h Q := by
  refine cd_W.bd (fun hbd => ?_)
  have hn := D.nk.1
  have Z : cc_txt h T n := by
    obtain ⟨accs, auts, ords, cers, b1, c1, b2, c2, b3, c3, b4, c4, R⟩ := D.1
    exact R.1.2.2.2.2.2.2.2.2
  obtain ⟨P, S, N⟩ := id D
  refine sp_Desk_write D.nk.2 Z hc (fun hh h' C F' en Z' => ?_) h0
  exact h1 hh h' (C.dq (fun x hx => Or.inl (by omega))) ⟨P.low hbd C (fun x hx => by omega) F' (fun W => W.ch C (by omega) (by omega)) (fun _ => Z'), S.ch C (by omega) (by omega), N.ch C (by omega) (by omega) (by omega)⟩ ((C.2.2 64 (by omega) (by omega)).1 13)
theorem dl_nonce (D : cl_D h T n life now NW AC AU OR CE us ct cr gv sp) (hg : gv < 512) (hs : sp gv = false) (hq : ∀ h', cd_ch cc_Dq h h' → cl_D h' T n life now NW AC AU OR CE us ct cr (gv + 1) sp → cd_i h' 64 13 = cd_i h 64 13 → Q (some (.int (nI (1000 * cr + gv)))) h') : cd_W X m_Desk_nonce kc ks 0 [some (.ref 64)] [] h Q := by
  refine cd_W.bd (fun hbd => ?_)
  have hn := D.nk.1
  obtain ⟨P, S, N⟩ := id D
  refine sp_Desk_nonce D.nk.2 N hg hs (fun h' C F' en N' => ?_)
  exact hq h' (C.dq (fun x hx => Or.inl (by omega))) ⟨P.low hbd C (fun x hx => by omega) F' (fun W => W.ch C (by omega) (by omega)) (fun Z => Z.ch2 C (by omega) (by omega) (by omega)), S.ch C (by omega) (by omega), N'⟩ ((C.2.2 64 (by omega) (by omega)).1 13)
theorem dl_cut (D : cl_D h T n life now NW AC AU OR CE us ct cr gv sp) {x : Int32} (h1 : ∀ c, c < 2 ^ 31 → x = nI c → ∀ h', cd_ch cc_Dq h h' → cl_D h' T n life now NW AC AU OR CE us (some c) cr gv sp → cd_i h' 64 13 = cd_i h 64 13 → Q (some (.int 1)) h') (h0 : x < 0 → Q (some (.int 0)) h) : cd_W X m_Desk_cut kc ks 0 [some (.ref 64), some (.int x)] [] h Q := by
  refine cd_W.bd (fun hbd => ?_)
  have hn := D.nk.1
  obtain ⟨P, S, N⟩ := id D
  refine sp_Desk_cut D.nk.2 S (fun c hc hx h' C F' en S' => ?_) h0
  exact h1 c hc hx h' (C.dq (fun x hx => Or.inl (by omega))) ⟨P.low hbd C (fun x hx => by omega) F' (fun W => W.ch C (by omega) (by omega)) (fun Z => Z.ch2 C (by omega) (by omega) (by omega)), S', N.ch C (by omega) (by omega) (by omega)⟩ ((C.2.2 64 (by omega) (by omega)).1 13)
theorem dl_publish (D : cl_D h T n life now NW AC AU OR CE us ct cr gv sp) {x y z : Int32} (h1 : ∀ w a u k, sg_spot AU x y w a u → k < 4 → z = nI k → ∀ h', cd_ch cc_Dq h h' → cl_D h' T n life now (fun j => if j = 24 * w + sg_pl AU u then some (sg_put a u k) else NW j) AC AU OR CE us ct cr gv sp → cd_i h' 64 13 = cd_i h 64 13 → Q (some (.int 1)) h') (h0 : (∀ w a u k, ¬ (sg_spot AU x y w a u ∧ k < 4 ∧ z = nI k)) → Q (some (.int 0)) h) : cd_W X m_Desk_publish kc ks 0 [some (.ref 64), some (.int x), some (.int y), some (.int z), none, none] [] h Q := by
  refine cd_W.bd (fun hbd => ?_)
  have hn := D.nk.1
  obtain ⟨P, S, N⟩ := id D
  obtain ⟨accs, auts, ords, cers, b1, c1, b2, c2, b3, c3, b4, c4, R⟩ := id P
  obtain ⟨F, -, Ft, Cs, Ky, Kk, K, W, Z⟩ := R.1
  refine sp_Desk_publish F R.2.2.1 K.2.1 Ky W (fun w a u k hs hk hz h' C en F' W' => ?_) h0
  exact h1 w a u k hs hk hz h' (C.dq (fun x hx => Or.inl (by omega))) ⟨P.low hbd C (fun x hx => by omega) F' (fun _ => W') (fun Z => Z.ch2 C (by omega) (by omega) (by omega)), S.ch C (by omega) (by omega), N.ch C (by omega) (by omega) (by omega)⟩ ((C.2.2 64 (by omega) (by omega)).1 13)
theorem dl_withdraw (D : cl_D h T n life now NW AC AU OR CE us ct cr gv sp) {x y : Int32} (h1 : ∀ w a u, sg_spot AU x y w a u → ∀ h', cd_ch cc_Dq h h' → cl_D h' T n life now (fun j => if j = 24 * w + sg_pl AU u then none else NW j) AC AU OR CE us ct cr gv sp → cd_i h' 64 13 = cd_i h 64 13 → Q (some (.int (b2i (NW (24 * w + sg_pl AU u)).isSome))) h') (h0 : (∀ w a u, ¬ sg_spot AU x y w a u) → Q (some (.int 0)) h) : cd_W X m_Desk_withdraw kc ks 0 [some (.ref 64), some (.int x), some (.int y), none] [] h Q := by
  refine cd_W.bd (fun hbd => ?_)
  have hn := D.nk.1
  obtain ⟨P, S, N⟩ := id D
  obtain ⟨accs, auts, ords, cers, b1, c1, b2, c2, b3, c3, b4, c4, R⟩ := id P
  obtain ⟨F, -, Ft, Cs, Ky, Kk, K, W, Z⟩ := R.1
  refine sp_Desk_withdraw F R.2.2.1 W (fun w a u hs h' C en F' W' => ?_) h0
  exact h1 w a u hs h' (C.dq (fun x hx => Or.inl (by omega))) ⟨P.low hbd C (fun x hx => by omega) F' (fun _ => W') (fun Z => Z.ch2 C (by omega) (by omega) (by omega)), S.ch C (by omega) (by omega), N.ch C (by omega) (by omega) (by omega)⟩ ((C.2.2 64 (by omega) (by omega)).1 13)
theorem dl_crash (D : cl_D h T n life now NW AC AU OR CE us ct cr gv sp) (hcr : cr < 1000) (hq : ∀ h', cd_ch cc_Dq h h' → cl_D h' T n life now NW AC (AU.map sg_cr) OR CE us ct (cr + 1) 0 (fun _ => false) → cd_i h' 64 13 = cd_i h 64 13 → Q none h') : cd_W X m_Desk_crash kc ks 0 [some (.ref 64), none] [] h Q := by
  refine cd_W.bd (fun hbd => ?_)
  have hn := D.nk.1
  obtain ⟨P, S, N⟩ := id D
  obtain ⟨accs, auts, ords, cers, b1, c1, b2, c2, b3, c3, b4, c4, R⟩ := id P
  have U := R.2.2.1
  have F := R.1.1
  have tk : ∀ x, (x = 74 ∨ x ∈ auts) → x = 74 ∨ (cd_k h x = some (.inl 2) ∧ 114 ≤ x) := fun x hx => by
    rcases hx with e | e
    · exact Or.inl e
    · rcases U.tk F (Or.inr (Or.inr e)) with z | z | z
      · have := (U.mem e).2; omega
      · exact Or.inl z
      · exact Or.inr ⟨z.1, (U.mem e).2⟩
  refine sp_Desk_crash F N hcr U (fun h' C en ek F' N' U' => ?_)
  have R' := R.oth hbd C F' (fun x hx z => by rcases tk x z with e | e <;> omega) (fun x hx z => by
    rcases tk x z with e | e
    · omega
    · exact e.1) U' (sg_cr_nm AU)
  refine hq h' (C.dq (fun x hx => ?_)) ⟨⟨accs, auts, ords, cers, b1, c1, b2, c2, b3, c3, b4, c4, R'⟩, S.ch C (by omega) (fun z => by have := tk 76 z; omega), N'⟩ ((C.2.2 64 (by omega) (fun z => by have := tk 64 z; omega)).1 13)
  rcases tk x hx with e | e
  · exact Or.inl (by omega)
  · exact Or.inr e.2
theorem dl_tick (D : cl_D h T n life now NW AC AU OR CE us ct cr gv sp) (hcr : cr < 1000) (hnow : now < 1000) {tk : List sg_U × Nat × Option Nat × Bool × Nat} (etk : tk = sg_tk AC life (now + 1) NW AU.length 0 AU us ct 0) (hq : ∀ h', cd_ch cc_Dq h h' → cl_D h' T n life (now + 1) NW AC tk.1 OR CE tk.2.1 tk.2.2.1 (sg_ncr tk.2.2.2.1 cr) (sg_ngv tk.2.2.2.1 gv) (sg_nsp tk.2.2.2.1 sp) → cd_i h' 64 13 = cd_i h 64 13 → Q (some (.int (nI tk.2.2.2.2))) h') : cd_W X m_Desk_tick kc ks 0 [some (.ref 64), none, none, none, none, none] [] h Q := by
  refine cd_W.bd (fun hbd => ?_)
  have hn := D.nk.1
  obtain ⟨P, S, N⟩ := id D
  obtain ⟨accs, auts, ords, cers, b1, c1, b2, c2, b3, c3, b4, c4, R⟩ := id P
  have U := R.2.2.1
  obtain ⟨F, -, Ft, Cs, Ky, Kk, K, W, Z⟩ := R.1
  have tks : ∀ x, (cc_TK auts x ∨ x = 64) → x = 64 ∨ x = 74 ∨ x = 76 ∨ (cd_k h x = some (.inl 2) ∧ 114 ≤ x) := fun x hx => by
    rcases hx with e | e
    · rcases e with e | e | e
      · exact Or.inr (Or.inr (Or.inl e))
      · exact Or.inr (Or.inl e)
      · exact Or.inr (Or.inr (Or.inr (U.mem e)))
    · exact Or.inl e
  refine sp_Desk_tick hcr F (by omega) Ft K hnow Ky W R.2.1 U S N (fun h' C e12 en F' K' U' S' N' => ?_)
  rw [← etk] at U' S' N' ⊢
  obtain ⟨r1, r2, r3, r4, r5⟩ := R.gen hbd C (fun x hx => by
    rcases tks x hx with e | e | e | e
    · obtain ⟨q, k1, k2⟩ := cc_lowk F (x := x) (by omega) (by omega)
      exact ⟨q, k1, (cl_q_low k2).1⟩
    · obtain ⟨q, k1, k2⟩ := cc_lowk F (x := x) (by omega) (by omega)
      exact ⟨q, k1, (cl_q_low k2).1⟩
    · obtain ⟨q, k1, k2⟩ := cc_lowk F (x := x) (by omega) (by omega)
      exact ⟨q, k1, (cl_q_low k2).1⟩
    · exact ⟨_, e.1, by decide, by decide, by decide, by decide, by decide, by decide⟩)
  have no : ∀ x, x < 114 → ¬ x = 64 → ¬ x = 74 → ¬ x = 76 → ¬ (cc_TK auts x ∨ x = 64) := fun x h1 h2 h3 h4 z => by
    rcases tks x z with e | e | e | e <;> omega
  have enm : tk.1.map sg_nm = AU.map sg_nm := by rw [etk]; exact sg_tk_nm _ _ _ _ _ _ _ _ _ _
  refine hq h' (C.dq (fun x hx => ?_)) ⟨⟨accs, auts, ords, cers, b1, c1, b2, c2, b3, c3, b4, c4, ⟨F', by omega, Ft.ch C (by omega) (fun x hx => no x (by omega) (by omega) (by omega) (by omega)), Cs.ch C (by omega) (fun x hx => no x (by omega) (by omega) (by omega) (by omega)), Ky.ch C (by omega) (fun x h1 h2 => no x (by omega) (by omega) (by omega) (by omega)), Kk.ch C (by omega) (fun x h1 h2 => no x (by omega) (by omega) (by omega) (by omega)), K', W.ch C (by omega) (no _ (by decide) (by decide) (by decide) (by decide)), Z.ch2 C (by omega) (no _ (by decide) (by decide) (by decide) (by decide)) (no _ (by decide) (by decide) (by decide) (by decide))⟩, r1, U', r3.nx, r4.nx.nm enm, r5⟩, S', N'⟩ (e12 13 (by decide))
  rcases tks x hx with e | e | e | e
  · exact Or.inl (by omega)
  · exact Or.inl (by omega)
  · exact Or.inl (by omega)
  · exact Or.inr e.2
end WLD
