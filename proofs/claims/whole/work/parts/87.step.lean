def cl_S (h : cd_H) (life k : Nat) : Prop := ∃ T n now NW AC AU OR CE us ct cr gv sp, cl_D h T n life now NW AC AU OR CE us ct cr gv sp ∧ cl_M h T n life now NW AC AU OR CE us ct cr gv sp ∧ cd_i h 64 13 = cd_i h 82 13 ∧ sg_I AC AU OR CE ∧ now ≤ k ∧ cr ≤ k ∧ gv ≤ k
def ws_2 (X : cd_E) (M : cd_M) (kc ks : Nat) (L : List (Option Value)) (G : Int32 → Int32 → cd_H → Prop) (r : Option Value) (h1 : cd_H) : Prop := ∃ x : Int32, r = some (.int x) ∧ ((cd_k h1 82 = some (.inl 11)) ∧ (cd_W X M kc ks 0 L [] h1 (fun r2 h2 => ∃ y : Int32, r2 = some (.int y) ∧ (G x y h2))))
section WST
variable {X : cd_E} {kc ks kc' ks' : Nat} {h h1 h2 h' : cd_H} {A : Nat → Nat → Prop} {T T' : Nat → Nat} {n n' life now cr gv us w k : Nat} {sp : Nat → Bool} {ct : Option Nat} {NW NW' : Nat → Option Nat} {AC : List sg_A} {AU AU' : List sg_U} {OR OR' : List sg_O} {CE : List sg_C} {G : Int32 → Int32 → cd_H → Prop}
theorem cl_S.mk (hbd : cd_bd h1) (Fm : cm_ok h1) (D : cl_D h1 T n life now NW AC AU OR CE us ct cr gv sp) (C : cm_ch A h1 h2) (hA : ∀ x j, A x j → 82 ≤ x ∧ x ≤ 113) (M : cl_M h2 T n life now NW AC AU OR CE us ct cr gv sp) (e : cd_i h1 64 13 = cd_i h2 82 13) (I : sg_I AC AU OR CE) (b1 : now ≤ k) (b2 : cr ≤ k) (b3 : gv ≤ k) : cl_S h2 life k := by
  obtain ⟨D2, e2⟩ := D.mdl hbd Fm C hA
  exact ⟨T, n, now, NW, AC, AU, OR, CE, us, ct, cr, gv, sp, D2, M, e2.trans e, I, b1, b2, b3⟩
theorem cl_S.nx (S : cl_S h life k) : cl_S h life (k + 1) := by
  obtain ⟨T, n, now, NW, AC, AU, OR, CE, us, ct, cr, gv, sp, D, M, e13, I, b1, b2, b3⟩ := S
  exact ⟨T, n, now, NW, AC, AU, OR, CE, us, ct, cr, gv, sp, D, M, e13, I, by omega, by omega, by omega⟩
theorem cl_S.k64 (S : cl_S h life k) : cd_k h 64 = some (.inl 0) := by
  obtain ⟨T, n, now, NW, AC, AU, OR, CE, us, ct, cr, gv, sp, D, M, e13, I, b1, b2, b3⟩ := S
  exact cc_k64 D.nk.2
theorem cl_S.k82 (S : cl_S h life k) : cd_k h 82 = some (.inl 11) := by
  obtain ⟨T, n, now, NW, AC, AU, OR, CE, us, ct, cr, gv, sp, D, M, e13, I, b1, b2, b3⟩ := S
  exact M.1.1.1
theorem st_write (S : cl_S h life k) {c : Nat} (hc : c < 65536) (hq : ∀ r h', cl_S h' life (k + 1) → G r r h') : cd_W X m_Desk_write kc ks 0 [some (.ref 64), some (.int (nI c))] [] h (ws_2 X m_Mod_write kc' ks' [some (.ref 82), some (.int (nI c))] G) := by
  have S0 := S
  obtain ⟨T, n, now, NW, AC, AU, OR, CE, us, ct, cr, gv, sp, D, M, e13, I, b1, b2, b3⟩ := S
  have hn := D.nk.1
  refine dl_write D hc (fun hh h1 C1 D1 e1 => ?_) (fun hh => ?_)
  · obtain ⟨M1, f1⟩ := M.dsk hn C1 (fun x hx => hx)
    exact ⟨_, rfl, M1.1.1.1, cd_W.bd (fun hbd => ml_write M1 hc (fun _ h2 C2 M2 e2 => ⟨_, rfl, hq _ _ (cl_S.mk hbd M1.1.1 D1 C2 (fun x j z => z) M2 (by rw [e1, e2, f1, e13]) I (by omega) (by omega) (by omega))⟩) (fun hx => absurd hh hx))⟩
  · exact ⟨_, rfl, M.1.1.1, ml_write M hc (fun hx => absurd hx hh) (fun _ => ⟨_, rfl, hq _ _ S0.nx⟩)⟩
theorem st_nonce (S : cl_S h life k) (hk : k < 512) (hq : ∀ r h', cl_S h' life (k + 1) → G r r h') : cd_W X m_Desk_nonce kc ks 0 [some (.ref 64)] [] h (ws_2 X m_Mod_nonce kc' ks' [some (.ref 82)] G) := by
  obtain ⟨T, n, now, NW, AC, AU, OR, CE, us, ct, cr, gv, sp, D, M, e13, I, b1, b2, b3⟩ := S
  have hn := D.nk.1
  refine dl_nonce D (by omega) (M.2.2.2.2.2.2.2 gv (Nat.le_refl _)) (fun h1 C1 D1 e1 => ?_)
  obtain ⟨M1, f1⟩ := M.dsk hn C1 (fun x hx => hx)
  exact ⟨_, rfl, M1.1.1.1, cd_W.bd (fun hbd => ml_nonce M1 (by omega) (fun h2 C2 M2 e2 => ⟨_, rfl, hq _ _ (cl_S.mk hbd M1.1.1 D1 C2 (fun x j z => z) M2 (by rw [e1, e2, f1, e13]) I (by omega) (by omega) (by omega))⟩))⟩
theorem st_cut (S : cl_S h life k) {x : Int32} (hq : ∀ r h', cl_S h' life (k + 1) → G r r h') : cd_W X m_Desk_cut kc ks 0 [some (.ref 64), some (.int x)] [] h (ws_2 X m_Mod_cut kc' ks' [some (.ref 82), some (.int x)] G) := by
  have S0 := S
  obtain ⟨T, n, now, NW, AC, AU, OR, CE, us, ct, cr, gv, sp, D, M, e13, I, b1, b2, b3⟩ := S
  have hn := D.nk.1
  have neg : ∀ c, c < 2 ^ 31 → x = nI c → ¬ x < 0 := fun c hc hx z => by
    rw [hx] at z
    exact nI_pos hc z
  refine dl_cut D (fun c hc hx h1 C1 D1 e1 => ?_) (fun hh => ?_)
  · obtain ⟨M1, f1⟩ := M.dsk hn C1 (fun x hx => hx)
    refine ⟨_, rfl, M1.1.1.1, cd_W.bd (fun hbd => ml_cut M1 (fun c' hc' hx' h2 C2 M2 e2 => ?_) (fun z => absurd z (neg c hc hx)))⟩
    have ec : c = c' := by
      rw [hx] at hx'
      exact (nI_eq hc hc').mp hx'
    subst ec
    exact ⟨_, rfl, hq _ _ (cl_S.mk hbd M1.1.1 D1 C2 (fun x j z => z) M2 (by rw [e1, e2, f1, e13]) I (by omega) (by omega) (by omega))⟩
  · exact ⟨_, rfl, M.1.1.1, ml_cut M (fun c hc hx => absurd hh (neg c hc hx)) (fun _ => ⟨_, rfl, hq _ _ S0.nx⟩)⟩
theorem sg_spot_fn {x y : Int32} {w a w' a' : Nat} {u u' : sg_U} (hl : AU.length ≤ 24) (h1 : sg_spot AU x y w a u) (h2 : sg_spot AU x y w' a' u') : w = w' ∧ a = a' ∧ u = u' := by
  obtain ⟨p1, p2, p3, p4⟩ := h1
  obtain ⟨q1, q2, q3, q4⟩ := h2
  have la := (List.getElem?_eq_some_iff.mp p4).1
  have la' := (List.getElem?_eq_some_iff.mp q4).1
  rw [p2] at q2
  rw [p3] at q3
  have ew := (nI_eq (by omega) (by omega)).mp q2
  have ea := (nI_eq (by omega) (by omega)).mp q3
  subst ea
  rw [p4] at q4
  cases q4
  exact ⟨ew, rfl, rfl⟩
theorem st_withdraw (S : cl_S h life k) {x y : Int32} (hq : ∀ r h', cl_S h' life (k + 1) → G r r h') : cd_W X m_Desk_withdraw kc ks 0 [some (.ref 64), some (.int x), some (.int y), none] [] h (ws_2 X m_Mod_withdraw kc' ks' [some (.ref 82), some (.int x), some (.int y), none, none] G) := by
  have S0 := S
  obtain ⟨T, n, now, NW, AC, AU, OR, CE, us, ct, cr, gv, sp, D, M, e13, I, b1, b2, b3⟩ := S
  have hn := D.nk.1
  refine dl_withdraw D (fun w a u hs h1 C1 D1 e1 => ?_) (fun hh => ?_)
  · obtain ⟨M1, f1⟩ := M.dsk hn C1 (fun x hx => hx)
    refine ⟨_, rfl, M1.1.1.1, cd_W.bd (fun hbd => ml_withdraw M1 (fun w' a' u' hs' h2 C2 M2 e2 => ?_) (fun z => absurd hs (z w a u)))⟩
    obtain ⟨rfl, rfl, rfl⟩ := sg_spot_fn M.1.2.2.2.2.2.2.1.1 hs hs'
    exact ⟨_, rfl, hq _ _ (cl_S.mk hbd M1.1.1 D1 C2 (fun x j z => z) M2 (by rw [e1, e2, f1, e13]) I (by omega) (by omega) (by omega))⟩
  · exact ⟨_, rfl, M.1.1.1, ml_withdraw M (fun w a u hs => absurd hs (hh w a u)) (fun _ => ⟨_, rfl, hq _ _ S0.nx⟩)⟩
theorem st_publish (S : cl_S h life k) {x y z : Int32} (hq : ∀ r h', cl_S h' life (k + 1) → G r r h') : cd_W X m_Desk_publish kc ks 0 [some (.ref 64), some (.int x), some (.int y), some (.int z), none, none] [] h (ws_2 X m_Mod_publish kc' ks' [some (.ref 82), some (.int x), some (.int y), some (.int z), none] G) := by
  have S0 := S
  obtain ⟨T, n, now, NW, AC, AU, OR, CE, us, ct, cr, gv, sp, D, M, e13, I, b1, b2, b3⟩ := S
  have hn := D.nk.1
  refine dl_publish D (fun w a u j hs hj hz h1 C1 D1 e1 => ?_) (fun hh => ?_)
  · obtain ⟨M1, f1⟩ := M.dsk hn C1 (fun x hx => hx)
    refine ⟨_, rfl, M1.1.1.1, cd_W.bd (fun hbd => ml_publish M1 (fun w' a' u' j' hs' hj' hz' h2 C2 M2 e2 => ?_) (fun z => absurd ⟨hs, hj, hz⟩ (z w a u j)))⟩
    obtain ⟨rfl, rfl, rfl⟩ := sg_spot_fn M.1.2.2.2.2.2.2.1.1 hs hs'
    have ej : j = j' := by
      rw [hz] at hz'
      exact (nI_eq (by omega) (by omega)).mp hz'
    subst ej
    exact ⟨_, rfl, hq _ _ (cl_S.mk hbd M1.1.1 D1 C2 (fun x j z => z) M2 (by rw [e1, e2, f1, e13]) I (by omega) (by omega) (by omega))⟩
  · exact ⟨_, rfl, M.1.1.1, ml_publish M (fun w a u j hs hj hz => absurd ⟨hs, hj, hz⟩ (hh w a u j)) (fun _ => ⟨_, rfl, hq _ _ S0.nx⟩)⟩
theorem st_tick (S : cl_S h life k) (hk : k < 512) (hq : ∀ r h', cl_S h' life (k + 1) → G r r h') : cd_W X m_Desk_tick kc ks 0 [some (.ref 64), none, none, none, none, none] [] h (ws_2 X m_Mod_tick kc' ks' [some (.ref 82), none, none, none, none, none] G) := by
  obtain ⟨T, n, now, NW, AC, AU, OR, CE, us, ct, cr, gv, sp, D, M, e13, I, b1, b2, b3⟩ := S
  have hn := D.nk.1
  have hNW : ∀ j v, j < 48 → NW j = some v → v < 2147483647 := by
    obtain ⟨accs, auts, ords, cers, b1, c1, b2, c2, b3, c3, b4, c4, R⟩ := D.1
    exact fun j v hj hv => (R.1.2.2.2.2.2.2.2.1 j hj).2 v hv
  generalize etk : sg_tk AC life (now + 1) NW AU.length 0 AU us ct 0 = tk
  have I' : sg_I AC tk.1 OR CE := I.nm (by rw [← etk]; exact sg_tk_nm _ _ _ _ _ _ _ _ _ _)
  have bc : ∀ b : Bool, sg_ncr b cr ≤ k + 1 ∧ sg_ngv b gv ≤ k + 1 := fun b => by
    cases b with
    | true => exact ⟨by show cr + 1 ≤ k + 1; omega, by show 0 ≤ k + 1; omega⟩
    | false => exact ⟨by show cr ≤ k + 1; omega, by show gv ≤ k + 1; omega⟩
  refine dl_tick D (by omega) (by omega) etk.symm (fun h1 C1 D1 e1 => ?_)
  obtain ⟨M1, f1⟩ := M.dsk hn C1 (fun x hx => hx)
  exact ⟨_, rfl, M1.1.1.1, cd_W.bd (fun hbd => ml_tick M1 (by omega) (by omega) hNW etk.symm (fun h2 C2 M2 e2 => ⟨_, rfl, hq _ _ (cl_S.mk hbd M1.1.1 D1 C2 (fun x j z => z) M2 (by rw [e1, e2, f1, e13]) I' (by omega) (bc _).1 (bc _).2)⟩))⟩
theorem st_crash (S : cl_S h life k) (hk : k < 512) {Q : cd_H → Prop} (hq : ∀ h', cl_S h' life (k + 1) → Q h') : cd_W X m_Desk_crash kc ks 0 [some (.ref 64), none] [] h (fun r h1 => (r = none) ∧ ((cd_k h1 82 = some (.inl 11)) ∧ (cd_W X m_Mod_crash kc' ks' 0 [some (.ref 82), none] [] h1 (fun r2 h2 => (r2 = none) ∧ (Q h2))))) := by
  obtain ⟨T, n, now, NW, AC, AU, OR, CE, us, ct, cr, gv, sp, D, M, e13, I, b1, b2, b3⟩ := S
  have hn := D.nk.1
  refine dl_crash D (by omega) (fun h1 C1 D1 e1 => ?_)
  obtain ⟨M1, f1⟩ := M.dsk hn C1 (fun x hx => hx)
  exact ⟨rfl, M1.1.1.1, cd_W.bd (fun hbd => ml_crash M1 (by omega) (fun h2 C2 M2 e2 => ⟨rfl, hq _ (cl_S.mk hbd M1.1.1 D1 C2 (fun x j z => z) M2 (by rw [e1, e2, f1, e13]) (I.nm (sg_cr_nm AU)) (by omega) (by omega) (by omega))⟩))⟩
end WST
