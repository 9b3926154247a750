def sg_ck (x : Int32) : Option Nat := if sg_ix x < 4 then some (66 + sg_ix x) else none
theorem sg_keyok {k : Nat} (hk : k < 5) : cd_kok (kp k) (kq k) (kx k) (ksec k) := by
  have : k = 0 ∨ k = 1 ∨ k = 2 ∨ k = 3 ∨ k = 4 := by omega
  rcases this with rfl | rfl | rfl | rfl | rfl
  · exact cd_key0
  · exact cd_key1
  · exact cd_key2
  · exact cd_key3
  · exact cd_key4
theorem sg_ix_of {x : Int32} {m : Nat} (h : sg_ix x < m) (hm : m ≤ 1000) : x = nI (sg_ix x) := by
  by_cases hneg : x < 0
  · rw [sg_ix, if_pos hneg] at h
    omega
  · obtain ⟨j, hj, rfl⟩ := nI_of hneg
    rw [sg_ix_nI hj]
section VPB
variable {X : cd_E} {kc ks : Nat} {h : cd_H} {Q : Option Value → cd_H → Prop} {now : Nat} {AC : List sg_A} {AU : List sg_U} {accs auts : List Nat} {b cap : Nat} {NW : Nat → Option Nat}
theorem sp_Desk_clientKey (F : cc_ok h) {x : Int32} (hq : Q (some (va_rf (sg_ck x))) h) : cd_W X m_Desk_clientKey kc ks 0 [some (.ref 64), some (.int x)] [] h Q := by
  refine g_Desk_clientKey F ⟨fun hx => ?_, fun hx => ?_⟩
  · rw [sg_ck, sg_ix, if_pos hx, if_neg (by decide)] at hq
    exact hq
  · obtain ⟨j, hj, rfl⟩ := nI_of hx
    rw [sg_ck, sg_ix_nI hj] at hq
    rw [show (4 : Int32) = nI 4 by decide, nI_leI (by decide) hj, nI_clamp hj]
    refine ⟨fun t => ?_, fun t => ⟨vp_in_nI (by omega) (by decide), ?_⟩⟩
    · rw [if_neg (by omega)] at hq
      exact hq
    · rw [if_pos (by omega)] at hq
      have : j = 0 ∨ j = 1 ∨ j = 2 ∨ j = 3 := by omega
      rcases this with rfl | rfl | rfl | rfl
      · rw [cc_r65_0 F]; exact hq
      · rw [cc_r65_1 F]; exact hq
      · rw [cc_r65_2 F]; exact hq
      · rw [cc_r65_3 F]; exact hq
theorem sp_Desk_publish (F : cc_ok h) (U : cc_aut h now accs AU auts b cap) (hnow : now ≤ 1000) (Ky : cc_kys h) (W : cc_net h NW) {x y z : Int32} (h1 : ∀ w a u k, sg_spot AU x y w a u → k < 4 → z = nI k → ∀ h', cd_ch (fun z => z = 77) h h' → cd_n h' = cd_n h → cc_ok h' → cc_net h' (fun j => if j = 24 * w + sg_pl AU u then some (sg_put a u k) else NW j) → Q (some (.int 1)) h') (h0 : (∀ w a u k, ¬ (sg_spot AU x y w a u ∧ k < 4 ∧ z = nI k)) → Q (some (.int 0)) h) : cd_W X m_Desk_publish kc ks 0 [some (.ref 64), some (.int x), some (.int y), some (.int z), none, none] [] h Q := by
  have u1 := U.1
  have u3 := U.2.2.1
  refine g_Desk_publish F (sp_Desk_authorizationAt F U ⟨_, rfl, F, sp_Desk_clientKey F ⟨_, rfl, F, sp_Desk_isWay F (fun w hw hx => ⟨_, rfl, F, fun t => absurd t (by decide), fun _ => ⟨fun hn => h0 (fun w' a' u' k' s => ?_), fun v hv => ⟨fun hn => h0 (fun w' a' u' k' s => ?_), fun q hq => ?_⟩⟩⟩) (fun hx => ⟨_, rfl, F, fun _ => h0 (fun w' a' u' k' s => hx w' s.1.1 s.1.2.1), fun t => absurd rfl t⟩)⟩⟩)
  · obtain ⟨⟨s1, s2, s3, s4⟩, s5⟩ := s
    have hl := (List.getElem?_eq_some_iff.mp s4).1
    rw [s3, sg_ix_nI (by omega), List.getElem?_eq_getElem (by omega)] at hn
    cases hn
  · obtain ⟨s1, s2, s3⟩ := s
    rw [s3, sg_ck, sg_ix_nI (by omega), if_pos s2] at hn
    cases hn
  · have hzl : sg_ix y < auts.length := (List.getElem?_eq_some_iff.mp hv).1
    have hal : sg_ix y < AU.length := by omega
    have hu : AU[sg_ix y]? = some AU[sg_ix y] := List.getElem?_eq_getElem hal
    have hyn : y = nI (sg_ix y) := sg_ix_of hal (by omega)
    have hpl := sg_pl_le hu
    have sp : sg_spot AU x y w (sg_ix y) AU[sg_ix y] := ⟨hw, hx, hyn, hu⟩
    subst hx
    rw [sg_ck] at hq
    by_cases hz4 : sg_ix z < 4
    · rw [if_pos hz4] at hq
      cases hq
      have hzn : z = nI (sg_ix z) := sg_ix_of hz4 (by omega)
      have c2 := (U.2.2.2.2 _ v _ hv hu).1.2.1
      refine sp_Desk_slot F U hv hu ⟨_, rfl, F, c2, sp_Aut_proof F U hnow hv hu (Ky (sg_ix z) (by omega)).1 ⟨_, rfl, F, vp_in_nI (by omega) (by decide), ?_⟩⟩
      rw [nI_clamp (by omega)]
      refine h1 w _ _ (sg_ix z) sp hz4 hzn _ (cd_ch.si rfl) rfl (F.of rfl rfl) (fun j hj => ?_)
      show _ = cd_op (if j = 24 * w + sg_pl AU AU[sg_ix y] then some (sg_put (sg_ix y) AU[sg_ix y] (sg_ix z)) else NW j) ∧ ∀ v, (if j = 24 * w + sg_pl AU AU[sg_ix y] then some (sg_put (sg_ix y) AU[sg_ix y] (sg_ix z)) else NW j) = some v → _
      by_cases e : j = 24 * w + sg_pl AU AU[sg_ix y]
      · rw [if_pos e, cd_i_si, if_pos ⟨rfl, e⟩]
        exact ⟨rfl, fun v hv => by cases hv; exact sg_put_lt _ _ _⟩
      · rw [if_neg e, cd_i_si, if_neg (fun z => e z.2)]
        exact W j hj
    · rw [if_neg hz4] at hq
      cases hq
def sg_tkn (AU : List sg_U) (x : Int32) : Int32 := match AU[sg_ix x]? with
  | none => -1
  | some u => nI (sg_tok (sg_ix x) u)
theorem sp_Desk_token (F : cc_ok h) (U : cc_aut h now accs AU auts b cap) (hnow : now ≤ 1000) {x : Int32} (hq : Q (some (.int (sg_tkn AU x))) h) : cd_W X m_Desk_token kc ks 0 [some (.ref 64), some (.int x), none] [] h Q := by
  have u3 := U.2.2.1
  refine g_Desk_token F (sp_Desk_authorizationAt F U ⟨_, rfl, F, fun hn => ?_, fun y hy => ?_⟩)
  · have : AU[sg_ix x]? = none := by
      rw [List.getElem?_eq_none_iff] at hn ⊢
      omega
    rw [sg_tkn, this] at hq
    exact hq
  · have hlt : sg_ix x < auts.length := (List.getElem?_eq_some_iff.mp hy).1
    have hl2 : sg_ix x < AU.length := by omega
    have e2 : AU[sg_ix x]? = some AU[sg_ix x] := List.getElem?_eq_getElem hl2
    rw [sg_tkn, e2] at hq
    exact ⟨(U.2.2.2.2 _ y _ hy e2).1.2.1, sp_Aut_tokenDigest F U hnow hy e2 ⟨_, rfl, F, hq⟩⟩
theorem sp_Mod_token (F : cm_ok h) (U : cm_aut h now AC AU) (hnow : now ≤ 1000) {x : Int32} (hq : ∀ h', cm_dd h h' → Q (some (.int (sg_tkn AU x))) h') : cd_W X m_Mod_token kc ks 0 [some (.ref 82), some (.int x)] [] h Q := by
  have u1 := U.1
  refine g_Mod_token F ⟨fun hx => ?_, fun hx => ?_⟩
  · have := hq h (cm_dd.rf h)
    rw [sg_tkn, sg_ix_neg hx (by omega)] at this
    exact this
  · obtain ⟨j, hj, rfl⟩ := nI_of hx
    rw [sg_tkn, sg_ix_nI hj] at hq
    rw [U.2.1, nI_ltI hj (by omega)]
    refine ⟨fun hlt => ?_, fun hge => ?_⟩
    · have e : AU[j]? = some AU[j] := List.getElem?_eq_getElem hlt
      rw [e] at hq
      refine sp_Mod_tokenOf F U hnow e (fun h1 C1 => ⟨_, rfl, C1.ok F, ?_⟩)
      rw [lN_i]
      exact hq h1 C1
    · have := hq h (cm_dd.rf h)
      rw [List.getElem?_eq_none (by omega)] at this
      exact this
theorem cc_kys.kok {k : Nat} (Ky : cc_kys h) (hk : k < 5) : cd_k h (66 + k) = some (.inl 4) ∧ cd_i h (66 + k) 1 = nI (kp k * kq k) ∧ cd_i h (66 + k) 2 = nI (kx k) ∧ cd_i h (66 + k) 3 = nI (ksec k) := by
  obtain ⟨⟨k1, k2, k3, k4⟩, k5⟩ := Ky k hk
  exact ⟨k1, k3, k2, k5⟩
def sg_sig (k d : Nat) : Nat := d ^ ksec k % (kp k * kq k)
theorem sg_mod {k : Nat} (hk : k < 5) : 1 < kp k * kq k ∧ kp k * kq k < 2 ^ 31 ∧ ksec k < 2 ^ 31 ∧ kx k < 65538 := by
  have : k = 0 ∨ k = 1 ∨ k = 2 ∨ k = 3 ∨ k = 4 := by omega
  rcases this with rfl | rfl | rfl | rfl | rfl <;> decide
theorem sg_sig_lt {k : Nat} (hk : k < 5) (d : Nat) : sg_sig k d < 2 ^ 31 := by
  obtain ⟨m1, m2, -⟩ := sg_mod hk
  have : sg_sig k d < kp k * kq k := Nat.mod_lt _ (by omega)
  omega
theorem sp_Key_sign (F : cc_ok h) (Ky : cc_kys h) {k d : Nat} (hk : k < 5) (hd : d < 2 ^ 31) (hq : Q (some (.int (nI (sg_sig k d)))) h) : cd_W X m_Key_sign kc ks 0 [some (.ref (66 + k)), some (.int (nI d))] [] h Q := by
  obtain ⟨k1, k2, k3, k4⟩ := Ky.kok hk
  obtain ⟨m1, m2, m3, m4⟩ := sg_mod hk
  refine g_Key_sign F ⟨k1, ?_⟩
  rw [k4]
  exact sp_Key_power k1 k2 F m1 m2 hd m3 ⟨_, rfl, F, hq⟩
theorem sp_Mod_sgn (F : cm_ok h) (Ky : cm_kys h) {k d : Nat} (hk : k < 5) (hd : d < 2 ^ 31) (hq : Q (some (.int (nI (sg_sig k d)))) h) : cd_W X m_Mod_sign kc ks 0 [some (.ref 82), some (.long (lN d)), none, some (.int (nI k)), none, none, none, none, none] [] h Q := by
  obtain ⟨k1, k2, k3, k4, k5⟩ := Ky k hk
  exact sp_Mod_sign F hk k2 k3 k4 (sg_keyok hk) (by omega) hq
def sg_ver (k : Nat) (s : Int32) (d : Nat) : Prop := ∃ v, v < kp k * kq k ∧ s = nI v ∧ v ^ kx k % (kp k * kq k) = d % (kp k * kq k)
theorem sp_Key_verifies (F : cc_ok h) (Ky : cc_kys h) {k d : Nat} {s : Int32} (hk : k < 5) (hd : d < 2 ^ 31) (h1 : sg_ver k s d → Q (some (.int 1)) h) (h0 : ¬ sg_ver k s d → Q (some (.int 0)) h) : cd_W X m_Key_verifies kc ks 0 [some (.ref (66 + k)), some (.int s), some (.int (nI d))] [] h Q := by
  obtain ⟨k1, k2, k3, k4⟩ := Ky.kok hk
  obtain ⟨m1, m2, m3, m4⟩ := sg_mod hk
  refine g_Key_verifies F ⟨fun t => h0 (fun ⟨v, hv, e, _⟩ => ?_), fun t => ⟨k1, ?_⟩⟩
  · rw [e] at t
    exact nI_pos (by omega) t
  · obtain ⟨v, hv, rfl⟩ := nI_of t
    rw [k2, k3, nI_leI (by omega) hv]
    refine ⟨fun t2 => h0 (fun ⟨v', hv', e, _⟩ => ?_), fun t2 => sp_Key_power k1 k2 F m1 m2 hv (by omega) ⟨_, rfl, F, k1, ?_⟩⟩
    · rw [nI_eq hv (by omega)] at e
      omega
    · show cd_W X m_Key_power 0 0 0 [some (.ref (66 + k)), some (.int (nI d)), some (.int (nI 1)), none, none, none, none, none] [] h _
      refine sp_Key_power k1 k2 F m1 m2 hd (by decide) ⟨_, rfl, F, ?_⟩
      have l1 := Nat.mod_lt (v ^ kx k) (show 0 < kp k * kq k by omega)
      have l2 := Nat.mod_lt d (show 0 < kp k * kq k by omega)
      rw [Nat.pow_one, nI_eq (by omega) (by omega)]
      refine ⟨fun t3 => h0 (fun ⟨v', hv', e, ev⟩ => ?_), fun t3 => h1 ⟨v, by omega, rfl, t3⟩⟩
      rw [nI_eq hv (by omega)] at e
      subst e
      exact t3 ev
theorem sp_Mod_isSignature (F : cm_ok h) (Ky : cm_kys h) {k d : Nat} {s : Int32} (hk : k < 5) (hd : d < 2 ^ 31) (h1 : sg_ver k s d → Q (some (.int 1)) h) (h0 : ¬ sg_ver k s d → Q (some (.int 0)) h) : cd_W X m_Mod_isSignature kc ks 0 [some (.ref 82), some (.int s), some (.long (lN d)), none, some (.int (nI k)), none, none] [] h Q := by
  obtain ⟨k1, k2, k3, k4, k5, k6, k7⟩ := Ky k hk
  obtain ⟨m1, m2, m3, m4⟩ := sg_mod hk
  refine g_Mod_isSignature F ⟨vp_in_nI hk (by decide), fun t => h0 (fun ⟨v, hv, e, _⟩ => ?_), fun t => ?_⟩
  · rw [e] at t
    exact nI_pos (by omega) t
  · obtain ⟨v, hv, rfl⟩ := nI_of t
    rw [nI_clamp (by omega), k2, k3, k4, nI_l (by omega), nI_l (by omega), nI_l (by omega), nI_l (by omega), lN_mul, lg_cmp_ge, pk_lLE (by omega) (by omega), pk_lRem (by omega) (by omega) (by omega)]
    refine ⟨fun t2 => h0 (fun ⟨v', hv', e, _⟩ => ?_), fun t2 => sp_Mod_power F m1 m2 (by omega) (by omega) ⟨_, rfl, F, fun z => ?_, ?_⟩⟩
    · rw [nI_eq hv (by omega)] at e
      omega
    · have z : lN (kp k * kq k) = lN 0 := z
      rw [pk_lEQ (by omega) (by decide)] at z
      omega
    · have l1 := Nat.mod_lt (v ^ kx k) (show 0 < kp k * kq k by omega)
      have l2 := Nat.mod_lt d (show 0 < kp k * kq k by omega)
      rw [lg_cmp_eq, pk_lEQ (by omega) (by omega)]
      refine ⟨fun t3 => h0 (fun ⟨v', hv', e, ev⟩ => ?_), fun t3 => h1 ⟨v, by omega, rfl, t3⟩⟩
      rw [nI_eq hv (by omega)] at e
      subst e
      exact t3 ev
def sg_rq (T : Nat → Nat) (n : Nat) (x y : Int32) : Nat := cd_numI (cd_dg (cd_numI (cd_dg (sg_nd T n) 124) x) 124) y
end VPB
