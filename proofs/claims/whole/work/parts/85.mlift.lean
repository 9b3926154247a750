section WLM
variable {X : cd_E} {kc ks : Nat} {h h' : cd_H} {Q : Option Value → cd_H → Prop} {A : Nat → Nat → Prop} {T T' : Nat → Nat} {n n' life now cr gv us w : Nat} {sp : Nat → Bool} {ct : Option Nat} {NW NW' : Nat → Option Nat} {AC : List sg_A} {AU AU' : List sg_U} {OR OR' : List sg_O} {CE : List sg_C}
theorem ml_write (M : cl_M h T n life now NW AC AU OR CE us ct cr gv sp) {c : Nat} (hc : c < 65536) (h1 : (n < 96 ∧ 32 ≤ c ∧ c ≤ 126) → ∀ h', cm_ch cm_Mq h h' → cl_M h' (fun j => if j = n then c else T j) (n + 1) life now NW AC AU OR CE us ct cr gv sp → cd_i h' 82 13 = cd_i h 82 13 → Q (some (.int 1)) h') (h0 : ¬ (n < 96 ∧ 32 ≤ c ∧ c ≤ 126) → Q (some (.int 0)) h) : cd_W X m_Mod_write kc ks 0 [some (.ref 82), some (.int (nI c))] [] h Q := by
  obtain ⟨⟨F, Z, K, Ky, W, Aa, U, O, Ce⟩, S, N⟩ := M
  refine sp_Mod_write F Z hc (fun hh h' C Z' => ?_) h0
  have e : ∀ x j, ¬ ((x = 82 ∧ j = 2) ∨ x = 83) → cd_i h' x j = cd_i h x j := fun x j hx => C.2.2.2 x j hx
  exact h1 hh h' (C.sub (fun x j z => by show 82 ≤ x ∧ x ≤ 113; omega)) ⟨⟨C.ok F, Z', K.of (fun j hj => e 82 j (by omega)), Ky.of (fun x j hx => e x j (by omega)), W.of (fun x j hx => e x j (by omega)), Aa.of (fun x j hx => e x j (by omega)), U.of (fun x j hx => e x j (by omega)), O.of (Nat.le_refl _) (Nat.le_refl _) (fun x j hx => e x j (by omega)), Ce.of (Nat.le_refl _) (fun x j hx => e x j (by omega))⟩, S.of (fun j hj => e 82 j (by omega)), N.of (fun x j hx => e x j (by omega))⟩ (e 82 13 (by omega))
theorem cm_R.sc (R : cm_R h T n life now NW AC AU OR CE) (C : cm_ch A h h') (hA : ∀ x j, A x j → (x = 82 ∧ (j = 10 ∨ j = 11 ∨ j = 39 ∨ j = 40 ∨ j = 42)) ∨ x = 88 ∨ x = 89 ∨ x = 111) : cm_R h' T n life now NW AC AU OR CE ∧ cd_i h' 82 13 = cd_i h 82 13 := by
  obtain ⟨F, Z, K, Ky, W, Aa, U, O, Ce⟩ := R
  have e : ∀ x j, ¬ ((x = 82 ∧ (j = 10 ∨ j = 11 ∨ j = 39 ∨ j = 40 ∨ j = 42)) ∨ x = 88 ∨ x = 89 ∨ x = 111) → cd_i h' x j = cd_i h x j := fun x j hx => C.2.2.2 x j (fun z => hx (hA x j z))
  exact ⟨⟨C.ok F, Z.of (fun x j hx => e x j (by omega)), K.of (fun j hj => e 82 j (by omega)), Ky.of (fun x j hx => e x j (by omega)), W.of (fun x j hx => e x j (by omega)), Aa.of (fun x j hx => e x j (by omega)), U.of (fun x j hx => e x j (by omega)), O.of (Nat.le_refl _) (Nat.le_refl _) (fun x j hx => e x j (by omega)), Ce.of (Nat.le_refl _) (fun x j hx => e x j (by omega))⟩, e 82 13 (by omega)⟩
theorem cl_M.dd (M : cl_M h T n life now NW AC AU OR CE us ct cr gv sp) (C : cm_ch A h h') (hA : ∀ x j, A x j → (x = 82 ∧ j = 42) ∨ x = 88 ∨ x = 111) : cl_M h' T n life now NW AC AU OR CE us ct cr gv sp ∧ cd_i h' 82 13 = cd_i h 82 13 := by
  obtain ⟨R, S, N⟩ := M
  obtain ⟨R', e13⟩ := R.sc C (fun x j z => by have := hA x j z; omega)
  have e : ∀ x j, ¬ ((x = 82 ∧ j = 42) ∨ x = 88 ∨ x = 111) → cd_i h' x j = cd_i h x j := fun x j hx => C.2.2.2 x j (fun z => hx (hA x j z))
  exact ⟨⟨R', S.of (fun j hj => e 82 j (by omega)), N.of (fun x j hx => e x j (by omega))⟩, e13⟩
theorem ml_nonce (M : cl_M h T n life now NW AC AU OR CE us ct cr gv sp) (hg : gv < 512) (hq : ∀ h', cm_ch cm_Mq h h' → cl_M h' T n life now NW AC AU OR CE us ct cr (gv + 1) sp → cd_i h' 82 13 = cd_i h 82 13 → Q (some (.int (nI (1000 * cr + gv)))) h') : cd_W X m_Mod_nonce kc ks 0 [some (.ref 82)] [] h Q := by
  obtain ⟨R, S, N⟩ := M
  refine sp_Mod_nonce R.1 N hg (fun h' C N' => ?_)
  obtain ⟨R', e13⟩ := R.sc C (fun x j z => by omega)
  exact hq h' (C.sub (fun x j z => by show 82 ≤ x ∧ x ≤ 113; omega)) ⟨R', S.of (fun j hj => C.2.2.2 82 j (by omega)), N'⟩ e13
theorem ml_cut (M : cl_M h T n life now NW AC AU OR CE us ct cr gv sp) {x : Int32} (h1 : ∀ c, c < 2 ^ 31 → x = nI c → ∀ h', cm_ch cm_Mq h h' → cl_M h' T n life now NW AC AU OR CE us (some c) cr gv sp → cd_i h' 82 13 = cd_i h 82 13 → Q (some (.int 1)) h') (h0 : x < 0 → Q (some (.int 0)) h) : cd_W X m_Mod_cut kc ks 0 [some (.ref 82), some (.int x)] [] h Q := by
  obtain ⟨R, S, N⟩ := M
  refine sp_Mod_cut R.1 S (fun c hc hx h' C S' => ?_) h0
  obtain ⟨R', e13⟩ := R.sc C (fun x j z => by omega)
  exact h1 c hc hx h' (C.sub (fun x j z => by show 82 ≤ x ∧ x ≤ 113; omega)) ⟨R', S', N.of (fun x j hx => C.2.2.2 x j (by omega))⟩ e13
theorem cl_M.nt (M : cl_M h T n life now NW AC AU OR CE us ct cr gv sp) (C : cm_ch A h h') (hA : ∀ x j, A x j → x = 109 ∨ x = 110 ∨ x = 88) (W' : cm_net h' NW') : (cl_M h' T n life now NW' AC AU OR CE us ct cr gv sp ∧ cd_i h' 82 13 = cd_i h 82 13) ∧ cm_ch cm_Mq h h' := by
  obtain ⟨⟨F, Z, K, Ky, W, Aa, U, O, Ce⟩, S, N⟩ := M
  have e : ∀ x j, ¬ (x = 109 ∨ x = 110 ∨ x = 88) → cd_i h' x j = cd_i h x j := fun x j hx => C.2.2.2 x j (fun z => hx (hA x j z))
  exact ⟨⟨⟨⟨C.ok F, Z.of (fun x j hx => e x j (by omega)), K.of (fun j hj => e 82 j (by omega)), Ky.of (fun x j hx => e x j (by omega)), W', Aa.of (fun x j hx => e x j (by omega)), U.of (fun x j hx => e x j (by omega)), O.of (Nat.le_refl _) (Nat.le_refl _) (fun x j hx => e x j (by omega)), Ce.of (Nat.le_refl _) (fun x j hx => e x j (by omega))⟩, S.of (fun j hj => e 82 j (by omega)), N.of (fun x j hx => e x j (by omega))⟩, e 82 13 (by omega)⟩, C.sub (fun x j z => by have := hA x j z; show 82 ≤ x ∧ x ≤ 113; omega)⟩
theorem ml_publish (M : cl_M h T n life now NW AC AU OR CE us ct cr gv sp) {x y z : Int32} (h1 : ∀ w a u k, sg_spot AU x y w a u → k < 4 → z = nI k → ∀ h', cm_ch cm_Mq h h' → cl_M h' T n life now (fun j => if j = 24 * w + sg_pl AU u then some (sg_put a u k) else NW j) AC AU OR CE us ct cr gv sp → cd_i h' 82 13 = cd_i h 82 13 → Q (some (.int 1)) h') (h0 : (∀ w a u k, ¬ (sg_spot AU x y w a u ∧ k < 4 ∧ z = nI k)) → Q (some (.int 0)) h) : cd_W X m_Mod_publish kc ks 0 [some (.ref 82), some (.int x), some (.int y), some (.int z), none] [] h Q := by
  obtain ⟨F, Z, K, Ky, W, Aa, U, O, Ce⟩ := M.1
  refine sp_Mod_publish F U K.2.1 Ky W (fun w a u k hs hk hz h' C W' => ?_) h0
  obtain ⟨⟨M', e13⟩, C'⟩ := M.nt C (fun x j z => z) W'
  exact h1 w a u k hs hk hz h' C' M' e13
theorem ml_withdraw (M : cl_M h T n life now NW AC AU OR CE us ct cr gv sp) {x y : Int32} (h1 : ∀ w a u, sg_spot AU x y w a u → ∀ h', cm_ch cm_Mq h h' → cl_M h' T n life now (fun j => if j = 24 * w + sg_pl AU u then none else NW j) AC AU OR CE us ct cr gv sp → cd_i h' 82 13 = cd_i h 82 13 → Q (some (.int (b2i (NW (24 * w + sg_pl AU u)).isSome))) h') (h0 : (∀ w a u, ¬ sg_spot AU x y w a u) → Q (some (.int 0)) h) : cd_W X m_Mod_withdraw kc ks 0 [some (.ref 82), some (.int x), some (.int y), none, none] [] h Q := by
  obtain ⟨F, Z, K, Ky, W, Aa, U, O, Ce⟩ := M.1
  refine sp_Mod_withdraw F U W (fun w a u hs h' C W' => ?_) h0
  obtain ⟨⟨M', e13⟩, C'⟩ := M.nt C (fun x j z => Or.inl z) W'
  exact h1 w a u hs h' C' M' e13
theorem ml_crash (M : cl_M h T n life now NW AC AU OR CE us ct cr gv sp) (hcr : cr < 1000) (hq : ∀ h', cm_ch cm_Mq h h' → cl_M h' T n life now NW AC (AU.map sg_cr) OR CE us ct (cr + 1) 0 (fun _ => false) → cd_i h' 82 13 = cd_i h 82 13 → Q none h') : cd_W X m_Mod_crash kc ks 0 [some (.ref 82), none] [] h Q := by
  obtain ⟨⟨F, Z, K, Ky, W, Aa, U, O, Ce⟩, S, N⟩ := M
  refine sp_Mod_crash F N hcr U (fun h' C e39 N' U' => ?_)
  have e : ∀ x j, ¬ ((x = 82 ∧ (j = 10 ∨ j = 11 ∨ j = 39 ∨ j = 40)) ∨ x = 89 ∨ x = 103) → cd_i h' x j = cd_i h x j := fun x j hx => C.2.2.2 x j hx
  exact hq h' (C.sub (fun x j z => by unfold cm_K at z; show 82 ≤ x ∧ x ≤ 113; omega)) ⟨⟨C.ok F, Z.of (fun x j hx => e x j (by omega)), K.of (fun j hj => e 82 j (by omega)), Ky.of (fun x j hx => e x j (by omega)), W.of (fun x j hx => e x j (by omega)), Aa.of (fun x j hx => e x j (by omega)), U', O.of (Nat.le_refl _) (by rw [List.length_map]; exact Nat.le_refl _) (fun x j hx => e x j (by omega)), Ce.of (Nat.le_refl _) (fun x j hx => e x j (by omega))⟩, S.of (fun j hj => e39 j hj), N'⟩ (e 82 13 (by omega))
theorem ml_tick (M : cl_M h T n life now NW AC AU OR CE us ct cr gv sp) (hcr : cr < 1000) (hnow : now < 1000) (hNW : ∀ j v, j < 48 → NW j = some v → v < 2147483647) {tk : List sg_U × Nat × Option Nat × Bool × Nat} (etk : tk = sg_tk AC life (now + 1) NW AU.length 0 AU us ct 0) (hq : ∀ h', cm_ch cm_Mq h h' → cl_M h' T n life (now + 1) NW AC tk.1 OR CE tk.2.1 tk.2.2.1 (sg_ncr tk.2.2.2.1 cr) (sg_ngv tk.2.2.2.1 gv) (sg_nsp tk.2.2.2.1 sp) → cd_i h' 82 13 = cd_i h 82 13 → Q (some (.int (nI tk.2.2.2.2))) h') : cd_W X m_Mod_tick kc ks 0 [some (.ref 82), none, none, none, none, none] [] h Q := by
  obtain ⟨⟨F, Z, K, Ky, W, Aa, U, O, Ce⟩, S, N⟩ := M
  refine sp_Mod_tick hcr hNW F K hnow Ky W Aa U S N (fun h' C K' U' S' N' => ?_)
  rw [← etk] at U' S' N' ⊢
  have e : ∀ x j, ¬ (((x = 82 ∧ (j = 10 ∨ j = 11 ∨ j = 39 ∨ j = 40)) ∨ x = 89 ∨ x = 103) ∨ x = 88 ∨ x = 101 ∨ x = 102 ∨ (x = 82 ∧ j = 9)) → cd_i h' x j = cd_i h x j := fun x j hx => C.2.2.2 x j (fun z => hx (by unfold cm_TK cm_K at z; omega))
  have el : tk.1.length = AU.length := by
    have := congrArg List.length (sg_tk_nm AC life (now + 1) NW AU.length 0 AU us ct 0)
    rw [← etk, List.length_map, List.length_map] at this
    exact this
  exact hq h' (C.sub (fun x j z => by unfold cm_TK cm_K at z; show 82 ≤ x ∧ x ≤ 113; omega)) ⟨⟨C.ok F, Z.of (fun x j hx => e x j (by omega)), K', Ky.of (fun x j hx => e x j (by omega)), W.of (fun x j hx => e x j (by omega)), Aa.of (fun x j hx => e x j (by omega)), U', (O.of (Nat.le_refl _) (by omega) (fun x j hx => e x j (by omega))).nx, (Ce.of (Nat.le_refl _) (fun x j hx => e x j (by omega))).nx⟩, S', N'⟩ (e 82 13 (by omega))
end WLM
