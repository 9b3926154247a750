theorem cd_i2cN (y : Int32) : ∃ c, c < 65536 ∧ (y.toUInt32 % 65536).toInt32 = nI c := by
  refine ⟨(y.toUInt32 % 65536).toNat, ?_, ?_⟩
  · rw [UInt32.toNat_mod]
    exact Nat.mod_lt _ (by decide)
  · generalize y.toUInt32 % 65536 = z
    have : z = UInt32.ofNat z.toNat := (UInt32.ofNat_toNat).symm
    conv => lhs; rw [this]
    rfl
theorem cd_lawlt {L v : Nat} (hL : L ≤ 2561) (hv : v ≤ 2561) : (nI L - 5 < nI v) ↔ L < v + 5 := by
  by_cases c : 5 ≤ L
  · rw [show (5 : Int32) = nI 5 by decide, pk_sub c, nI_ltI (by omega) (by omega)]
    omega
  · have : nI L - 5 < 0 := by
      have : L = 0 ∨ L = 1 ∨ L = 2 ∨ L = 3 ∨ L = 4 := by omega
      rcases this with rfl | rfl | rfl | rfl | rfl <;> decide
    refine ⟨fun _ => by omega, fun _ => ?_⟩
    have p : ¬ nI v < 0 := nI_pos (by omega)
    rw [Int32.lt_iff_toInt_lt] at this p ⊢
    omega
section WLP
variable {X : cd_E} {kc ks : Nat} {Q : Option Value → cd_H → Prop} {life : Nat}
theorem cd_law_step (hL : cd_sL X ≤ 2561) {k r : Nat} {h : cd_H} (hk : k < 512) (S : cl_S h life k) (hQ : ∀ h', Q (some (.int 1)) h') (go : ∀ h', cl_S h' life (k + 1) → cd_W X m_Law_law (kc + 81 * r) (ks + 2240 * r) 28 [some (.ref 35), some (.ref 64), some (.ref 82), some (.int (nI (1 + 5 * k) + 5))] [] h' Q) : cd_W X m_Law_law (kc + 81 * r + 81) (ks + 2240 * r + 2240) 28 [some (.ref 35), some (.ref 64), some (.ref 82), some (.int (nI (1 + 5 * k)))] [] h Q := by
  have go2 : ∀ h', cl_S h' life (k + 1) → cd_W X m_Law_law (kc + 81 * r + 81) (ks + 2240 * r + 2240) 28 [some (.ref 35), some (.ref 64), some (.ref 82), some (.int (nI (1 + 5 * k) + 5))] [] h' Q := fun h' S' => cd_W.budget (by omega) (by omega) (go h' S')
  have k64 := S.k64
  refine g_Law_law_28 ⟨fun _ => hQ h, fun t => ?_⟩
  rw [cd_lawlt hL (by omega)] at t
  have e1 : nI (1 + 5 * k) + 1 = nI (1 + 5 * k + 1) := nI_add _ _
  have e2 : nI (1 + 5 * k) + 2 = nI (1 + 5 * k + 2) := nI_add _ _
  have e3 : nI (1 + 5 * k) + 3 = nI (1 + 5 * k + 3) := nI_add _ _
  have e4 : nI (1 + 5 * k) + 4 = nI (1 + 5 * k + 4) := nI_add _ _
  have v1 : vp_in (nI (1 + 5 * k) + 1) (cd_sL X) := by rw [e1]; exact vp_in_nI (by omega) (by omega)
  have v2 : vp_in (nI (1 + 5 * k) + 2) (cd_sL X) := by rw [e2]; exact vp_in_nI (by omega) (by omega)
  have v3 : vp_in (nI (1 + 5 * k) + 3) (cd_sL X) := by rw [e3]; exact vp_in_nI (by omega) (by omega)
  have v4 : vp_in (nI (1 + 5 * k) + 4) (cd_sL X) := by rw [e4]; exact vp_in_nI (by omega) (by omega)
  have fin : ∀ (h' : cd_H), cl_S h' life (k + 1) → ∀ x : Int32, ((x = x) → cd_W X m_Law_law (kc + 81 * r + 81) (ks + 2240 * r + 2240) 28 [some (.ref 35), some (.ref 64), some (.ref 82), some (.int (nI (1 + 5 * k) + 5))] [] h' Q) ∧ ((¬ x = x) → Q (some (.int 0)) h') := fun h' S' x => ⟨fun _ => go2 h' S', fun z => absurd rfl z⟩
  refine ⟨vp_in_nI (by omega) (by omega), ?_⟩
  refine ⟨fun _ => ?_, fun _ => ⟨fun _ => ?_, fun _ => ⟨fun _ => ?_, fun _ => ⟨fun _ => ?_, fun _ => ⟨fun _ => ?_, fun _ => ⟨fun _ => ?_, fun _ => ⟨fun _ => ?_, fun _ => ⟨fun _ => ?_, fun _ => ⟨fun _ => ?_, fun _ => ⟨fun _ => ?_, fun _ => ⟨fun _ => ?_, fun _ => ⟨fun _ => ?_, fun _ => ⟨fun _ => ?_, fun _ => ⟨fun _ => ?_, fun _ => ⟨fun _ => ?_, fun _ => ⟨fun _ => ?_, fun _ => ⟨fun _ => ?_, fun _ => ⟨fun _ => ?_, fun _ => ⟨fun _ => ?_, fun _ => go2 h S.nx⟩⟩⟩⟩⟩⟩⟩⟩⟩⟩⟩⟩⟩⟩⟩⟩⟩⟩⟩
  · refine g_Law_law_132 ⟨v1, k64, ?_⟩
    obtain ⟨c, hc, ec⟩ := cd_i2cN (cd_sx X (nI (1 + 5 * k) + 1).toNatClampNeg)
    rw [ec]
    exact st_write S hc (fun x h' S' => fin h' S' x)
  · exact g_Law_law_157 ⟨k64, st_nonce S hk (fun x h' S' => fin h' S' x)⟩
  · exact g_Law_law_170 ⟨v1, v2, v3, v4, k64, st_request (kc := 0) (ks := 0) S hk (fun x h' S' => ⟨fun _ => go h' S', fun z => absurd rfl z⟩)⟩
  · exact g_Law_law_223 ⟨k64, st_signature S (fun x h' S' => fin h' S' x)⟩
  · exact g_Law_law_236 ⟨v1, v2, v3, k64, st_publish S (fun x h' S' => fin h' S' x)⟩
  · exact g_Law_law_279 ⟨v1, v2, k64, st_withdraw S (fun x h' S' => fin h' S' x)⟩
  · exact g_Law_law_312 ⟨k64, st_tick S hk (fun x h' S' => fin h' S' x)⟩
  · exact g_Law_law_325 ⟨v1, k64, st_cut S (fun x h' S' => fin h' S' x)⟩
  · exact g_Law_law_348 ⟨k64, st_crash S hk (fun h' S' => go2 h' S')⟩
  · exact g_Law_law_359 ⟨k64, st_words S (fun x h' S' => fin h' S' x)⟩
  · exact g_Law_law_372 ⟨v1, k64, st_account S (fun x h' S' => fin h' S' x)⟩
  · exact g_Law_law_395 ⟨v1, k64, st_order S (fun x h' S' => fin h' S' x)⟩
  · exact g_Law_law_418 ⟨v1, v2, k64, st_authorization S (fun x h' S' => fin h' S' x)⟩
  · exact g_Law_law_451 ⟨v1, k64, st_state S (fun x h' S' => fin h' S' x)⟩
  · exact g_Law_law_474 ⟨v1, k64, st_token S (fun x h' S' => fin h' S' x)⟩
  · exact g_Law_law_497 ⟨v1, k64, st_serial S (fun x h' S' => fin h' S' x)⟩
  · exact g_Law_law_520 ⟨v1, v2, k64, st_octet S (fun x h' S' => fin h' S' x)⟩
  · exact g_Law_law_553 ⟨v1, k64, st_standing S (fun x h' S' => fin h' S' x)⟩
  · exact g_Law_law_576 ⟨k64, st_listing S (fun x h' S' => fin h' S' x)⟩
theorem cd_law_loop (hL : cd_sL X ≤ 2561) (hQ : ∀ h', Q (some (.int 1)) h') : ∀ (r k : Nat) (h : cd_H), r + k = 512 → cl_S h life k → cd_W X m_Law_law (kc + 81 * r) (ks + 2240 * r) 28 [some (.ref 35), some (.ref 64), some (.ref 82), some (.int (nI (1 + 5 * k)))] [] h Q := by
  intro r
  induction r with
  | zero =>
    intro k h hk S
    refine g_Law_law_28 ⟨fun _ => hQ h, fun t => absurd ?_ t⟩
    rw [cd_lawlt hL (by omega)]
    omega
  | succ r ih =>
    intro k h hk S
    have R := cd_law_step (kc := kc) (ks := ks) (r := r) hL (by omega) S hQ (fun h' S' => by
      have e : nI (1 + 5 * k) + 5 = nI (1 + 5 * (k + 1)) := (nI_add (1 + 5 * k) 5).trans (congrArg nI (by omega))
      rw [e]
      exact ih (k + 1) h' (by omega) S')
    rw [show kc + 81 * (r + 1) = kc + 81 * r + 81 by omega, show ks + 2240 * (r + 1) = ks + 2240 * r + 2240 by omega]
    exact R
end WLP
