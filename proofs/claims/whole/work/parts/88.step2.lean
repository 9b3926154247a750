section WSU
variable {X : cd_E} {kc ks kc' ks' : Nat} {h h1 h2 h' : cd_H} {A : Nat → Nat → Prop} {T T' : Nat → Nat} {n n' life now cr gv us w k : Nat} {sp : Nat → Bool} {ct : Option Nat} {NW NW' : Nat → Option Nat} {AC : List sg_A} {AU AU' : List sg_U} {OR OR' : List sg_O} {CE : List sg_C} {G : Int32 → Int32 → cd_H → Prop}
theorem cl_S.dd (S : cl_S h life k) (hbd : cd_bd h) (C : cm_ch A h h') (hA : ∀ x j, A x j → (x = 82 ∧ j = 42) ∨ x = 88 ∨ x = 111) : cl_S h' life (k + 1) := by
  obtain ⟨T, n, now, NW, AC, AU, OR, CE, us, ct, cr, gv, sp, D, M, e13, I, b1, b2, b3⟩ := S
  obtain ⟨M', e⟩ := M.dd C hA
  exact cl_S.mk hbd M.1.1 D C (fun x j z => by have := hA x j z; omega) M' (by rw [e, e13]) I (by omega) (by omega) (by omega)
theorem st_words (S : cl_S h life k) (hq : ∀ r h', cl_S h' life (k + 1) → G r r h') : cd_W X m_Desk_words kc ks 0 [some (.ref 64)] [] h (ws_2 X m_Mod_words kc' ks' [some (.ref 82)] G) := by
  have S0 := S
  obtain ⟨T, n, now, NW, AC, AU, OR, CE, us, ct, cr, gv, sp, D, M, e13, I, b1, b2, b3⟩ := S
  exact sp_Desk_words D.nk.2 D.2.1 ⟨_, rfl, M.1.1.1, sp_Mod_words M.1.1 M.2.1 ⟨_, rfl, hq _ _ S0.nx⟩⟩
theorem st_signature (S : cl_S h life k) (hq : ∀ r h', cl_S h' life (k + 1) → G r r h') : cd_W X m_Desk_signature kc ks 0 [some (.ref 64)] [] h (ws_2 X m_Mod_signature kc' ks' [some (.ref 82)] G) := by
  have S0 := S
  obtain ⟨T, n, now, NW, AC, AU, OR, CE, us, ct, cr, gv, sp, D, M, e13, I, b1, b2, b3⟩ := S
  exact g_Desk_signature D.nk.2 ⟨_, rfl, M.1.1.1, g_Mod_signature M.1.1 ⟨_, rfl, by rw [e13]; exact hq _ _ S0.nx⟩⟩
theorem st_account (S : cl_S h life k) {x : Int32} (hq : ∀ r h', cl_S h' life (k + 1) → G r r h') : cd_W X m_Desk_account kc ks 0 [some (.ref 64), some (.int x), none] [] h (ws_2 X m_Mod_account kc' ks' [some (.ref 82), some (.int x)] G) := by
  have S0 := S
  obtain ⟨T, n, now, NW, AC, AU, OR, CE, us, ct, cr, gv, sp, D, M, e13, I, b1, b2, b3⟩ := S
  obtain ⟨accs, auts, ords, cers, b1, c1, b2, c2, b3, c3, b4, c4, ⟨F, hn, Ft, Cs, Ky, Kk, K, W, Z⟩, Aa, U, O, Ce, Sp⟩ := D.1
  obtain ⟨mF, mZ, mK, mKy, mW, mA, mU, mO, mC⟩ := M.1
  exact sp_Desk_account F Kk Aa ⟨_, rfl, mF.1, sp_Mod_account mF mA ⟨_, rfl, hq _ _ S0.nx⟩⟩
theorem st_order (S : cl_S h life k) {x : Int32} (hq : ∀ r h', cl_S h' life (k + 1) → G r r h') : cd_W X m_Desk_order kc ks 0 [some (.ref 64), some (.int x), none] [] h (ws_2 X m_Mod_order kc' ks' [some (.ref 82), some (.int x), none, none, none, none] G) := by
  have S0 := S
  obtain ⟨T, n, now, NW, AC, AU, OR, CE, us, ct, cr, gv, sp, D, M, e13, I, b1, b2, b3⟩ := S
  obtain ⟨accs, auts, ords, cers, b1, c1, b2, c2, b3, c3, b4, c4, ⟨F, hn, Ft, Cs, Ky, Kk, K, W, Z⟩, Aa, U, O, Ce, Sp⟩ := D.1
  obtain ⟨mF, mZ, mK, mKy, mW, mA, mU, mO, mC⟩ := M.1
  exact sp_Desk_order F K Aa U O ⟨_, rfl, mF.1, sp_Mod_order mF mK mA mU mO ⟨_, rfl, hq _ _ S0.nx⟩⟩
theorem st_authorization (S : cl_S h life k) {x y : Int32} (hq : ∀ r h', cl_S h' life (k + 1) → G r r h') : cd_W X m_Desk_authorization kc ks 0 [some (.ref 64), some (.int x), some (.int y), none] [] h (ws_2 X m_Mod_authorization kc' ks' [some (.ref 82), some (.int x), some (.int y)] G) := by
  have S0 := S
  obtain ⟨T, n, now, NW, AC, AU, OR, CE, us, ct, cr, gv, sp, D, M, e13, I, b1, b2, b3⟩ := S
  obtain ⟨accs, auts, ords, cers, b1, c1, b2, c2, b3, c3, b4, c4, ⟨F, hn, Ft, Cs, Ky, Kk, K, W, Z⟩, Aa, U, O, Ce, Sp⟩ := D.1
  obtain ⟨mF, mZ, mK, mKy, mW, mA, mU, mO, mC⟩ := M.1
  exact sp_Desk_authorization F U O ⟨_, rfl, mF.1, sp_Mod_authorization mF mO ⟨_, rfl, hq _ _ S0.nx⟩⟩
theorem st_state (S : cl_S h life k) {x : Int32} (hq : ∀ r h', cl_S h' life (k + 1) → G r r h') : cd_W X m_Desk_state kc ks 0 [some (.ref 64), some (.int x), none] [] h (ws_2 X m_Mod_state kc' ks' [some (.ref 82), some (.int x), none, none] G) := by
  have S0 := S
  obtain ⟨T, n, now, NW, AC, AU, OR, CE, us, ct, cr, gv, sp, D, M, e13, I, b1, b2, b3⟩ := S
  obtain ⟨accs, auts, ords, cers, b1, c1, b2, c2, b3, c3, b4, c4, ⟨F, hn, Ft, Cs, Ky, Kk, K, W, Z⟩, Aa, U, O, Ce, Sp⟩ := D.1
  obtain ⟨mF, mZ, mK, mKy, mW, mA, mU, mO, mC⟩ := M.1
  exact sp_Desk_state F K Aa U ⟨_, rfl, mF.1, sp_Mod_state mF mK mA mU ⟨_, rfl, hq _ _ S0.nx⟩⟩
theorem st_token (S : cl_S h life k) {x : Int32} (hq : ∀ r h', cl_S h' life (k + 1) → G r r h') : cd_W X m_Desk_token kc ks 0 [some (.ref 64), some (.int x), none] [] h (ws_2 X m_Mod_token kc' ks' [some (.ref 82), some (.int x)] G) := by
  have S0 := S
  obtain ⟨T, n, now, NW, AC, AU, OR, CE, us, ct, cr, gv, sp, D, M, e13, I, b1, b2, b3⟩ := S
  obtain ⟨accs, auts, ords, cers, b1, c1, b2, c2, b3, c3, b4, c4, ⟨F, hn, Ft, Cs, Ky, Kk, K, W, Z⟩, Aa, U, O, Ce, Sp⟩ := D.1
  obtain ⟨mF, mZ, mK, mKy, mW, mA, mU, mO, mC⟩ := M.1
  exact sp_Desk_token F U K.2.1 ⟨_, rfl, mF.1, cd_W.bd (fun hbd => sp_Mod_token mF mU K.2.1 (fun h' C => ⟨_, rfl, hq _ _ (S0.dd hbd C.ch (fun x j z => Or.inr (Or.inl z)))⟩))⟩
theorem st_serial (S : cl_S h life k) {x : Int32} (hq : ∀ r h', cl_S h' life (k + 1) → G r r h') : cd_W X m_Desk_serial kc ks 0 [some (.ref 64), some (.int x), none] [] h (ws_2 X m_Mod_serial kc' ks' [some (.ref 82), some (.int x)] G) := by
  have S0 := S
  obtain ⟨T, n, now, NW, AC, AU, OR, CE, us, ct, cr, gv, sp, D, M, e13, I, b1, b2, b3⟩ := S
  obtain ⟨accs, auts, ords, cers, b1, c1, b2, c2, b3, c3, b4, c4, ⟨F, hn, Ft, Cs, Ky, Kk, K, W, Z⟩, Aa, U, O, Ce, Sp⟩ := D.1
  obtain ⟨mF, mZ, mK, mKy, mW, mA, mU, mO, mC⟩ := M.1
  exact sp_Desk_serial F O ⟨_, rfl, mF.1, sp_Mod_serial mF mO ⟨_, rfl, hq _ _ S0.nx⟩⟩
theorem st_octet (S : cl_S h life k) {x y : Int32} (hq : ∀ r h', cl_S h' life (k + 1) → G r r h') : cd_W X m_Desk_octet kc ks 0 [some (.ref 64), some (.int x), some (.int y), none] [] h (ws_2 X m_Mod_octet kc' ks' [some (.ref 82), some (.int x), some (.int y), none] G) := by
  have S0 := S
  obtain ⟨T, n, now, NW, AC, AU, OR, CE, us, ct, cr, gv, sp, D, M, e13, I, b1, b2, b3⟩ := S
  obtain ⟨accs, auts, ords, cers, b1, c1, b2, c2, b3, c3, b4, c4, ⟨F, hn, Ft, Cs, Ky, Kk, K, W, Z⟩, Aa, U, O, Ce, Sp⟩ := D.1
  obtain ⟨mF, mZ, mK, mKy, mW, mA, mU, mO, mC⟩ := M.1
  exact sp_Desk_octet F Ce ⟨_, rfl, mF.1, cd_W.bd (fun hbd => sp_Mod_octet mF K.2.1 mU mO mC (fun h' C => ⟨_, rfl, hq _ _ (S0.dd hbd C (fun x j z => by omega))⟩))⟩
theorem st_standing (S : cl_S h life k) {x : Int32} (hq : ∀ r h', cl_S h' life (k + 1) → G r r h') : cd_W X m_Desk_standing kc ks 0 [some (.ref 64), some (.int x), none] [] h (ws_2 X m_Mod_standing kc' ks' [some (.ref 82), some (.int x)] G) := by
  have S0 := S
  obtain ⟨T, n, now, NW, AC, AU, OR, CE, us, ct, cr, gv, sp, D, M, e13, I, b1, b2, b3⟩ := S
  obtain ⟨accs, auts, ords, cers, b1, c1, b2, c2, b3, c3, b4, c4, ⟨F, hn, Ft, Cs, Ky, Kk, K, W, Z⟩, Aa, U, O, Ce, Sp⟩ := D.1
  obtain ⟨mF, mZ, mK, mKy, mW, mA, mU, mO, mC⟩ := M.1
  exact sp_Desk_standing F K Ce ⟨_, rfl, mF.1, sp_Mod_standing mF mK mC ⟨_, rfl, hq _ _ S0.nx⟩⟩
theorem st_listing (S : cl_S h life k) (hq : ∀ r h', cl_S h' life (k + 1) → G r r h') : cd_W X m_Desk_listing kc ks 0 [some (.ref 64), none, none, none] [] h (ws_2 X m_Mod_listing kc' ks' [some (.ref 82), none] G) := by
  have S0 := S
  obtain ⟨T, n, now, NW, AC, AU, OR, CE, us, ct, cr, gv, sp, D, M, e13, I, b1, b2, b3⟩ := S
  obtain ⟨accs, auts, ords, cers, b1, c1, b2, c2, b3, c3, b4, c4, ⟨F, hn, Ft, Cs, Ky, Kk, K, W, Z⟩, Aa, U, O, Ce, Sp⟩ := D.1
  obtain ⟨mF, mZ, mK, mKy, mW, mA, mU, mO, mC⟩ := M.1
  exact sp_Desk_listing F Ky Ce ⟨_, rfl, mF.1, cd_W.bd (fun hbd => sp_Mod_listing mF mKy mC (fun h' C => ⟨_, rfl, hq _ _ (S0.dd hbd C.ch (fun x j z => Or.inr (Or.inl z)))⟩))⟩
theorem sg_ck_nI {k : Nat} (hk : k < 4) : ¬ sg_ck (nI k) = none := fun z => by
  rw [sg_ck, sg_ix_nI (by omega), if_pos hk] at z
  cases z
theorem st_request (S : cl_S h life k) (hk : k < 512) {x1 x2 x3 x4 : Int32} (hq : ∀ r h', cl_S h' life (k + 1) → G r r h') : cd_W X m_Desk_request (kc + 81) (ks + 2240) 0 [some (.ref 64), some (.int x1), some (.int x2), some (.int x3), some (.int x4), none, none] [] h (ws_2 X m_Mod_request kc' ks' [some (.ref 82), some (.int x1), some (.int x2), some (.int x3), some (.int x4), none] G) := by
  obtain ⟨T, n, now, NW, AC, AU, OR, CE, us, ct, cr, gv, sp, D, M, e13, I, b1, b2, b3⟩ := S
  have hn := D.nk.1
  obtain ⟨ob, hob⟩ : ∃ ob : Bool, ob = true ↔ sg_obj T n := ⟨@decide (sg_obj T n) (Classical.propDecidable _), @decide_eq_true_iff _ (Classical.propDecidable _)⟩
  obtain ⟨ok, hok⟩ : ∃ ok : Bool, ∀ l, tx_z T n (sg_fl T n [110, 97, 109, 101, 115] (some 0)) = some l → (ok = true ↔ ((1 ≤ l.length ∧ l.length ≤ 3) ∧ sg_nok T n l)) := by
    cases e : tx_z T n (sg_fl T n [110, 97, 109, 101, 115] (some 0)) with
    | none => exact ⟨true, fun l hl => by cases hl⟩
    | some l => exact ⟨@decide ((1 ≤ l.length ∧ l.length ≤ 3) ∧ sg_nok T n l) (Classical.propDecidable _), fun l' hl => by cases hl; exact @decide_eq_true_iff _ (Classical.propDecidable _)⟩
  have bc : ∀ b : Bool, sg_ncr b cr ≤ k + 1 ∧ sg_ngv b gv ≤ k + 1 := fun b => by
    cases b with
    | true => exact ⟨by show cr + 1 ≤ k + 1; omega, by show 0 ≤ k + 1; omega⟩
    | false => exact ⟨by show cr ≤ k + 1; omega, by show gv ≤ k + 1; omega⟩
  have ni : ∀ {a b : Nat}, a < 4 → b < 4 → nI a = nI b → a = b := fun ha hb e => (nI_eq (by omega) (by omega)).mp e
  have pi : ∀ {a b : Nat}, a < gv → b < gv → nI (1000 * cr + a) = nI (1000 * cr + b) → a = b := fun ha hb e => by
    have := (nI_eq (by omega) (by omega)).mp e
    omega
  refine sp_Desk_request D.1 D.2.1 D.2.2 (by omega) I hob hok (fun hnone h1 C1 P1 S1 N1 e1 => ?_) (fun j hj hx ng h1 C1 P1 S1 N1 e1 => ?_) (fun j p hj hx hp hx2 hsp nad h1 C1 P1 S1 N1 e1 => ?_) (fun j p hj hx hp hx2 hsp ad Rs eRs h1 C1 P1 S1 N1 e1 => ?_)
  · obtain ⟨M1, f1⟩ := M.dsk hn C1 (fun x hx => hx)
    refine ⟨_, rfl, M1.1.1.1, cd_W.bd (fun hbd => sp_Mod_request M1.1 M1.2.1 M1.2.2 (by omega) I hob hok (fun _ h2 C2 R2 S2 N2 e2 => ⟨_, rfl, hq _ _ (cl_S.mk hbd M1.1.1 ⟨P1, S1, N1⟩ C2 (fun x j z => z) ⟨R2, S2, N2⟩ (by rw [e1, e2, f1, e13]) I (by omega) (by omega) (by omega))⟩) (fun j hj hx => ?_) (fun j p hj hx => ?_) (fun j p hj hx => ?_))⟩
    · rw [hx] at hnone
      exact absurd hnone (sg_ck_nI hj)
    · rw [hx] at hnone
      exact absurd hnone (sg_ck_nI hj)
    · rw [hx] at hnone
      exact absurd hnone (sg_ck_nI hj)
  · obtain ⟨M1, f1⟩ := M.dsk hn C1 (fun x hx => hx)
    refine ⟨_, rfl, M1.1.1.1, cd_W.bd (fun hbd => sp_Mod_request M1.1 M1.2.1 M1.2.2 (by omega) I hob hok (fun hnone => ?_) (fun j' hj' hx' _ h2 C2 R2 S2 N2 e2 => ?_) (fun j' p' hj' hx' hp' hx2' hsp' => absurd ⟨p', hp', hx2', hsp'⟩ ng) (fun j' p' hj' hx' hp' hx2' hsp' => absurd ⟨p', hp', hx2', hsp'⟩ ng))⟩
    · rw [hx] at hnone
      exact absurd hnone (sg_ck_nI hj)
    · have ej := ni hj hj' (hx.symm.trans hx')
      subst ej
      exact ⟨_, rfl, hq _ _ (cl_S.mk hbd M1.1.1 ⟨P1, S1, N1⟩ C2 (fun x j z => z) ⟨R2, S2, N2⟩ (by rw [e1, e2]) I (by omega) (by omega) (by omega))⟩
  · obtain ⟨M1, f1⟩ := M.dsk hn C1 (fun x hx => hx)
    refine ⟨_, rfl, M1.1.1.1, cd_W.bd (fun hbd => sp_Mod_request M1.1 M1.2.1 M1.2.2 (by omega) I hob hok (fun hnone => ?_) (fun j' hj' hx' ng => absurd ⟨p, hp, hx2, hsp⟩ ng) (fun j' p' hj' hx' hp' hx2' hsp' nad' h2 C2 R2 S2 N2 e2 => ?_) (fun j' p' hj' hx' hp' hx2' hsp' ad' => ?_))⟩
    · rw [hx] at hnone
      exact absurd hnone (sg_ck_nI hj)
    · have ej := ni hj hj' (hx.symm.trans hx')
      subst ej
      have ep := pi hp hp' (hx2.symm.trans hx2')
      subst ep
      exact ⟨_, rfl, hq _ _ (cl_S.mk hbd M1.1.1 ⟨P1, S1, N1⟩ C2 (fun x j z => z) ⟨R2, S2, N2⟩ (by rw [e1, e2]) I (by omega) (by omega) (by omega))⟩
    · have ej := ni hj hj' (hx.symm.trans hx')
      subst ej
      exact absurd ad' nad
  · obtain ⟨M1, f1⟩ := M.dsk hn C1 (fun x hx => hx)
    refine ⟨_, rfl, M1.1.1.1, cd_W.bd (fun hbd => sp_Mod_request M1.1 M1.2.1 M1.2.2 (by omega) I hob hok (fun hnone => ?_) (fun j' hj' hx' ng => absurd ⟨p, hp, hx2, hsp⟩ ng) (fun j' p' hj' hx' hp' hx2' hsp' nad' => ?_) (fun j' p' hj' hx' hp' hx2' hsp' ad' Rs' eRs' h2 C2 R2 S2 N2 e2 => ?_))⟩
    · rw [hx] at hnone
      exact absurd hnone (sg_ck_nI hj)
    · have ej := ni hj hj' (hx.symm.trans hx')
      subst ej
      exact absurd ad nad'
    · have ej := ni hj hj' (hx.symm.trans hx')
      subst ej
      have ep := pi hp hp' (hx2.symm.trans hx2')
      subst ep
      have eq := eRs'.trans eRs.symm
      have I' : sg_IR Rs := by rw [eRs]; exact I.prm hok
      rw [eq] at R2 S2 N2 ⊢
      exact ⟨_, rfl, hq _ _ (cl_S.mk hbd M1.1.1 ⟨P1, S1, N1⟩ C2 (fun x j z => z) ⟨R2, S2, N2⟩ (by rw [e1, e2]) I' (by omega) (bc _).1 (bc _).2)⟩
end WSU
