def cm_MK (m x j : Nat) : Prop := (x = 82 ∧ j = 23) ∨ (x = 95 ∧ 3 * m ≤ j) ∨ x = 97 ∨ x = 98 ∨ x = 99 ∨ x = 100 ∨ x = 113
section VMW
variable {X : cd_E} {kc ks : Nat} {h h' : cd_H} {Q : Option Value → cd_H → Prop} {T : Nat → Nat} {n life now cr gv us w : Nat} {sp : Nat → Bool} {ct : Option Nat} {NW : Nat → Option Nat} {AC AC' : List sg_A} {AU AU' : List sg_U} {OR : List sg_O} {CE : List sg_C}
theorem sp_Mod_make_71 {v1 v2 : Int32} {k q c a len : Nat} (hk : k < 3) (hs : tx_s T n q = some c) (ha : a < 24) (hlen : len = c - q - 2) (hl12 : len ≤ 12) (hm : OR.length < 12) : ∀ (r j : Nat) (h : cd_H), r + j = len → cm_ok h → cm_txt h T n → cd_i h 82 23 = nI a → cd_i h 82 17 = nI OR.length → cd_i h 99 a = nI len → cd_i h 112 k = nI q → cd_i h 113 k = nI a → (∀ u, u < j → cd_i h 98 (12 * a + u) = nI (T (q + 1 + u))) → (∀ h', cm_ch (fun x u => (x = 98 ∧ 12 * a ≤ u) ∨ (x = 82 ∧ u = 23) ∨ (x = 95 ∧ u = 3 * OR.length + k)) h h' → (∀ u, u < len → cd_i h' 98 (12 * a + u) = nI (T (q + 1 + u))) → cd_i h' 82 23 = nI (a + 1) → cd_i h' 95 (3 * OR.length + k) = nI a → cd_W X m_Mod_make kc ks 2 [some (.ref 82), some (.int v1), some (.int v2), some (.int (nI (k + 1))), none] [] h' Q) → cd_W X m_Mod_make kc ks 71 [some (.ref 82), some (.int v1), some (.int v2), some (.int (nI k)), some (.int (nI j))] [] h Q := by
  intro r
  induction r with
  | zero =>
    intro j h hj F Z e23 e17 e99 e112 e113 ch hq
    refine g_Mod_make_71 F ?_
    have w17 : ∀ v : Int32, cd_i (cd_si h 82 23 v) 82 17 = nI OR.length := fun v => by rw [cd_i_si, if_neg (by omega)]; exact e17
    have w113 : ∀ v : Int32, cd_i (cd_si h 82 23 v) 113 k = nI a := fun v => by rw [cd_i_si, if_neg (by omega)]; exact e113
    have e3 : (3 : Int32) * nI OR.length + nI k = nI (3 * OR.length + k) := by rw [show (3 : Int32) = nI 3 by decide, pk_mul, nI_add]
    rw [e23, nI_clamp (by omega : a < 2 ^ 31), e99, nI_leI (by omega) (by omega), w17, e3, nI_clamp (by omega : k < 2 ^ 31), nI_clamp (by omega : 3 * OR.length + k < 2 ^ 31), w113, nI_1, nI_1]
    refine ⟨vp_in_nI ha (by decide), fun _ => ⟨vp_in_nI hk (by decide), vp_in_nI (by omega) (by decide), ?_⟩, fun t => by omega⟩
    refine hq _ ((cm_ch.si (Or.inr (Or.inl ⟨rfl, rfl⟩))).tr (cm_ch.si (Or.inr (Or.inr ⟨rfl, rfl⟩)))) (fun u hu => ?_) ?_ ?_
    · rw [cd_i_si, if_neg (by omega), cd_i_si, if_neg (by omega)]
      exact ch u (by omega)
    · rw [cd_i_si, if_neg (by omega), cd_i_si, if_pos ⟨rfl, rfl⟩]
    · rw [cd_i_si, if_pos ⟨rfl, rfl⟩]
  | succ r ih =>
    intro j h hj F Z e23 e17 e99 e112 e113 ch hq
    have hp := tx_s_some hs
    have z1 := Z.1
    have e12 : (12 : Int32) * nI a + nI j = nI (12 * a + j) := by rw [show (12 : Int32) = nI 12 by decide, pk_mul, nI_add]
    have eqq : nI q + 1 + nI j = nI (q + 1 + j) := by rw [nI_1, nI_add]
    have ejj : nI j + 1 = nI (j + 1) := by rw [nI_1]
    have hjn : q + 1 + j < n := by omega
    have hT := Z.2.2.2 (q + 1 + j) hjn
    refine g_Mod_make_71 F ?_
    rw [e23, nI_clamp (by omega : a < 2 ^ 31), e99, nI_leI (by omega) (by omega), nI_clamp (by omega : k < 2 ^ 31), e112, eqq, e12, ejj, nI_clamp (by omega : 12 * a + j < 2 ^ 31)]
    refine ⟨vp_in_nI ha (by decide), fun t => by omega, fun _ => ⟨vp_in_nI hk (by decide), sp_Mod_at F Z (by omega) ⟨_, rfl, F, vp_in_nI (by omega) (by decide), ?_⟩⟩⟩
    rw [tx_at, if_pos hjn, cd_narc (by omega)]
    have C1 : cm_ch (fun x u => (x = 98 ∧ 12 * a ≤ u) ∨ (x = 82 ∧ u = 23) ∨ (x = 95 ∧ u = 3 * OR.length + k)) h (cd_si h 98 (12 * a + j) (nI (T (q + 1 + j)))) := cm_ch.si (Or.inl ⟨rfl, by omega⟩)
    refine ih (j + 1) _ (by omega) (C1.ok F) (Z.of (fun x u hx => cd_ne (by omega) h _ _ u)) (by rw [cd_ne (by decide)]; exact e23) (by rw [cd_ne (by decide)]; exact e17) (by rw [cd_ne (by decide)]; exact e99) (by rw [cd_ne (by decide)]; exact e112) (by rw [cd_ne (by decide)]; exact e113) (fun u hu => ?_) (fun h' C' => hq h' (C1.tr C'))
    rw [cd_i_si]
    by_cases e : u = j
    · rw [if_pos ⟨rfl, by omega⟩, e]
    · rw [if_neg (by omega)]
      exact ch u (by omega)
theorem cm_aut.push (U : cm_aut h now AC AU) (hl : AU.length < 24) {v : sg_U} (ho : sgu_own v < AC.length) (e : ∀ x j, ((97 ≤ x ∧ x ≤ 103) ∧ ¬ (x = 98 ∧ 12 * AU.length ≤ j) ∧ ¬ (¬ x = 98 ∧ j = AU.length)) → cd_i h' x j = cd_i h x j) (e23 : cd_i h' 82 23 = nI (AU.length + 1)) (e97 : cd_i h' 97 AU.length = nI (sgu_own v)) (en : cm_nam h' AU.length (sgu_N v) (sgu_len v)) (e100 : cd_i h' 100 AU.length = nI (sgu_made v)) (e101 : cd_i h' 101 AU.length = cd_i h 101 AU.length) (e103 : cd_i h' 103 AU.length = cd_i h 103 AU.length) (hd : sgu_dec v = 0) (ht : sgu_tri v = 0) (hm : sgu_made v ≤ now ∧ sgu_since v ≤ now) : cm_aut h' now AC (AU ++ [v]) := by
  obtain ⟨u1, u2, u3, u4⟩ := U
  refine ⟨by rw [List.length_append, List.length_singleton]; omega, by rw [List.length_append, List.length_singleton]; exact e23, fun i u hu => ?_, fun i h1 h2 => ?_⟩
  · by_cases ei : i < AU.length
    · rw [List.getElem?_append_left ei] at hu
      obtain ⟨b1, b2, b3, b4, b5, b6, b7, b8⟩ := u3 i u hu
      refine ⟨b1, by rw [e 97 i (by omega)]; exact b2, ⟨b3.1, by rw [e 99 i (by omega)]; exact b3.2.1, fun j hj => by rw [e 98 (12 * i + j) (by have := b3.1; omega)]; exact b3.2.2 j hj⟩, by rw [e 100 i (by omega)]; exact b4, by rw [e 101 i (by omega)]; exact b5, fun z => by rw [e 102 i (by omega)]; exact b6 z, by rw [e 103 i (by omega)]; exact b7, b8⟩
    · have hi := (List.getElem?_eq_some_iff.mp hu).1
      rw [List.length_append, List.length_singleton] at hi
      have eii : i = AU.length := by omega
      rw [eii, List.getElem?_append_right (Nat.le_refl _), Nat.sub_self] at hu
      cases hu
      rw [eii]
      obtain ⟨g1, g2⟩ := u4 AU.length (Nat.le_refl _) (by omega)
      exact ⟨ho, e97, en, e100, by rw [e101, g1, hd]; rfl, fun z => (by rw [hd] at z; cases z), by rw [e103, g2, ht]; rfl, by omega, by omega, hm.1, hm.2⟩
  · rw [List.length_append, List.length_singleton] at h1
    rw [e 101 i (by omega), e 103 i (by omega)]
    exact u4 i (by omega) h2
theorem cm_R.mk {AU' : List sg_U} (R : cm_R h T n life now NW AC AU OR CE) (C : cm_ch (cm_MK OR.length) h h') (U' : cm_aut h' now AC AU') (hl : AU.length ≤ AU'.length) : cm_R h' T n life now NW AC AU' OR CE := by
  obtain ⟨F, Z, K, Ky, W, A, U, O, Ce⟩ := R
  have e : ∀ x j, ¬ cm_MK OR.length x j → cd_i h' x j = cd_i h x j := C.2.2.2
  have no : ∀ x j, (x = 82 → ¬ j = 23) → (x = 95 → j < 3 * OR.length) → ¬ (97 ≤ x ∧ x ≤ 100) → ¬ x = 113 → ¬ cm_MK OR.length x j := fun x j a b c d z => by
    rcases z with z | z | z | z | z | z | z
    · exact a z.1 z.2
    · have := b z.1; omega
    · omega
    · omega
    · omega
    · omega
    · omega
  refine ⟨C.ok F, Z.of (fun x j hx => e x j (no x j (by omega) (by omega) (by omega) (by omega))), K.of (fun j hj => e 82 j (no 82 j (by omega) (by omega) (by decide) (by decide))), Ky.of (fun x j hx => e x j (no x j (by omega) (by omega) (by omega) (by omega))), W.of (fun x j hx => e x j (no x j (by omega) (by omega) (by omega) (by omega))), A.of (fun x j hx => e x j (no x j (by omega) (by omega) (by omega) (by omega))), U', ?_, Ce.of (Nat.le_refl _) (fun x j hx => e x j (no x j (by omega) (by omega) (by omega) (by omega)))⟩
  refine ⟨O.1, by rw [e 82 17 (no 82 17 (by decide) (by omega) (by decide) (by decide))]; exact O.2.1, fun i o ho => ?_⟩
  have hil := (List.getElem?_eq_some_iff.mp ho).1
  obtain ⟨d1, d2, d3, d4, d5, d6, d7, d8, d9⟩ := O.2.2 i o ho
  refine ⟨d1, by rw [e 92 i (no 92 i (by omega) (by omega) (by omega) (by omega))]; exact d2, by rw [e 93 i (no 93 i (by omega) (by omega) (by omega) (by omega))]; exact d3, d4, d5, by rw [e 94 i (no 94 i (by omega) (by omega) (by omega) (by omega))]; exact d6, fun k p hp => ⟨?_, by have := (d7 k p hp).2; omega⟩, by rw [e 96 i (no 96 i (by omega) (by omega) (by omega) (by omega))]; exact d8, d9⟩
  have hkl := (List.getElem?_eq_some_iff.mp hp).1
  rw [e 95 (3 * i + k) (no 95 (3 * i + k) (by omega) (by omega) (by omega) (by omega))]
  exact (d7 k p hp).1
end VMW
